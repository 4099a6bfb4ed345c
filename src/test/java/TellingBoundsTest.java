import java.util.function.Supplier;

/** The boundary cases of a new object, of SAYINGS, OFFERS, the TRUTH, LOOKS, WATCHES, MARKS, and of what is counted. */
public final class TellingBoundsTest extends Kit {
    private static final String TWO = "fact a;fact b;place p bearing 9;place q bearing 200;person t at p knows a;"
        + "person u at q knows;";

    public static void main(String[] args) {
        newObject();
        newObjectAsked();
        newObjectWithAPair();
        sayBounds();
        sayInOrder();
        sayRow();
        saidRefused();
        questions();
        offerBounds();
        offerRow();
        offerRefused();
        truthBounds();
        truthNotCommon();
        lookBounds();
        lookRow();
        watchBounds();
        watchRow();
        sectorOfALook();
        markBounds();
        markOfAll();
        marksApart();
        markOfEach();
        markOfNothing();
        countBounds();
        end();
    }

    private static LiarsCock two() {
        return village(TWO);
    }

    /** Every row is full: 24 SAYINGS, 6 OFFERS, 12 LOOKS, 4 WATCHES. */
    private static LiarsCock full() {
        LiarsCock x = village(TWO + "cock 1 law 1 late 3;");
        x.truth(2);
        for (int i = 0; i < 24; i++) {
            say(x, i % 2, i, i % 3 == 0 ? "a" : "b");
        }
        for (int i = 0; i < 6; i++) {
            offer(x, i % 2, 1439 - i, i < 3 ? "a" : "0");
        }
        for (int i = 0; i < 12; i++) {
            x.look(i % 2, i, i % 2 == 0 ? 0 : 5, 300);
        }
        for (int i = 0; i < 4; i++) {
            x.watch(i % 2, 5 * i);
        }
        return x;
    }

    // ---- Promise 1

    /** No PARISH: nobody, no FACT, one cock. */
    private static void newObject() {
        int[] counts = {0, 0, 0, 0, 1, 0, 0, 0, 0, 0, 0, 1};
        for (int what = 0; what < counts.length; what++) {
            due("new count " + what, new LiarsCock().count(what), counts[what]);
        }
        LiarsCock x = new LiarsCock();
        due("new say", x.say(0, 0), NONE);
        due("new offer", x.offer(0, 0), NONE);
        due("new truth 0", x.truth(0), true);
        due("new truth 1", x.truth(1), false);
        due("new world 0", x.world(0), 2);
        due("new world 1", x.world(1), NONE);
        due("new watch", x.watch(0, 0), 0);
        due("new watch of cock 1", x.watch(1, 0), NONE);
        due("new look of cock 1", x.look(1, 0, 0, 0), NONE);
        due("new look", x.look(0, 1439, 0, 0), 0);
        due("it is so", x.worlds(NONE), 1);
        due("it is so", x.judged(), NONE);
        due("it points at 0", x.look(0, 0, 1, 359), 1);
        due("that can't be", x.worlds(NONE), 0);
        due("that is not so", x.judged(), 1);
        due("clash", x.clash(1), 2);
        for (int i = 0; i < 4; i++) {
            due("new mark " + i, x.mark(i, true), false);
        }
    }

    /** Nothing told yet: what each call that asks answers. */
    private static void newObjectAsked() {
        LiarsCock x = new LiarsCock();
        due("new lie", x.lie(0, 0), NONE);
        due("new points", x.points(0, 0, 0), NONE);
        due("new points", x.points(0, 1439, 0), NONE);
        due("new worlds", x.worlds(NONE), 1);
        due("new worlds 0", x.worlds(0), NONE);
        due("new sureFact", x.sureFact(0), NONE);
        due("new sure", x.sure(0), NONE);
        due("new odds", x.odds(0, 0), NONE);
        due("new odds", x.odds(NONE, 1), NONE);
        due("new proof", x.proof(0, 0), NONE);
        due("new clash", x.clash(0), NONE);
        due("new learns", x.learns(0, 0, true, 0, 0), NONE);
        due("new judged", x.judged(), NONE);
        due("new turned", x.turned(0, 1439), 0);
        due("new pointed at nobody", x.pointed(0, NONE, 0, 1439), 1440);
        due("new pointed", x.pointed(0, 0, 0, 1439), NONE);
        due("new round", x.round(0, 1439), 0);
        due("new hidden", x.hidden(0, 0), NONE);
        due("new secret", secret(x, 0, 0, 5, 1, 0), -2);
        due("new sector", x.sector(0, 359), 0);
        due("new told by nobody", x.told(0), 0);
        due("new told", x.told(1), NONE);
        due("new person", x.person(0, 0), NONE);
        due("new lookout", x.lookout(0, 0, 0), NONE);
        due("new move", x.move(0, NONE), NONE);
        due("new move but 0", x.move(0, 0), NONE);
        due("new differ", x.differ(0, 1439), NONE);
    }

    private static void newObjectWithAPair() {
        LiarsCock x = new LiarsCock();
        int[] zero = {0, 1};
        for (int what : zero) {
            due("new next " + what, x.next(0, 0, 1439, what), what);
            due("new fog " + what, x.fog(0, 0, 1439, what), what);
            due("new hide " + what, x.hide(0, what), NONE);
            due("new blind " + what, x.blind(180, what), 0);
            due("new fewest " + what, x.fewest(0, what), NONE);
            due("new longest " + what, x.longest(0, 0, 1439, what), NONE);
        }
        due("new next of cock 1", x.next(1, 0, 1439, 0), NONE);
        due("new turned of cock 1", x.turned(1, 0), NONE);
        due("new round of cock 1", x.round(1, 0), NONE);
    }

    // ---- Promise 4

    /** One of the PEOPLE, in a MINUTE (0 to 1439). */
    private static void sayBounds() {
        bounds("say by", 0, 1, person -> two().say(person, 5));
        bounds("say in minute", 0, 1439, minute -> two().say(0, minute));
        outside("say by nobody there", 0, NONE, person -> village("fact a;").say(person, 5));
        LiarsCock x = village(TWO.replace("place q", "place g bearing 1;place q")
            + "person v at p knows;person w at p knows;person x at p knows;person y at p knows;");
        bounds("say of six", 0, 5, person -> x.say(person, 5));
    }

    /** Each not ahead of the MINUTE of the one before. */
    private static void sayInOrder() {
        LiarsCock x = two();
        due("in 0", say(x, 0, 0, "a"), 0);
        due("in 0 again", say(x, 1, 0, "a"), 0);
        due("in 700", say(x, 0, 700, "a"), 0);
        due("in 699", say(x, 0, 699, "a"), NONE);
        due("in 0", say(x, 0, 0, "a"), NONE);
        due("in 700 again", say(x, 0, 700, "a"), 0);
        due("in 1439", say(x, 0, 1439, "a"), 0);
        due("in 1438", say(x, 1, 1438, "a"), NONE);
        due("in 1439 again", say(x, 1, 1439, "a"), 0);
        due("six are there", x.count(5), 6);
        due("a FAULT in 1439", say(x, 0, 1439, "c"), 2);
        due("a FAULT in 1438", say(x, 0, 1438, "c"), NONE);
        x = two();
        due("a FAULT in 9", say(x, 0, 9, "c"), 2);
        due("it does not count as the one before", say(x, 0, 8, "a"), 0);
        due("refused in 1440", say(x, 0, 1440, "a"), NONE);
        due("refused: nobody there in 99", say(x, 2, 99, "a"), NONE);
        due("they do not either", say(x, 0, 8, "a"), 0);
        due("an OFFER does not either", offer(x, 0, 1000, "a"), 0);
        due("an OFFER does not either", say(x, 0, 8, "a"), 0);
        parish(x, TWO);
        due("nor one of the PARISH ahead", say(x, 0, 0, "a"), 0);
    }

    /** 24 at most. */
    private static void sayRow() {
        LiarsCock x = two();
        for (int i = 0; i < 24; i++) {
            due("say " + i, say(x, i % 2, 10 * i, i == 23 ? "b" : "a"), 0);
            due("there are", x.count(5), i + 1);
            due("the new one", x.lie(i, i == 23 ? 2 : 1) & 1, 1);
            due("no more", x.lie(i + 1, 1), NONE);
        }
        due("no 25th", say(x, 0, 230, "a"), NONE);
        due("no 25th, later", say(x, 0, 1439, "a"), NONE);
        due("no 25th with a FAULT", say(x, 0, 1439, "a a"), NONE);
        due("no 25th QUESTION", x.say(0, 1439), NONE);
        due("24", x.count(5), 24);
        due("the first", x.lie(0, 2) & 1, 0);
        due("the last", x.lie(23, 1) & 1, 0);
        due("by the last", x.points(0, 230, 1), 1);
        due("by the one before", x.points(0, 229, 0), 0);
        due("other rows are free", offer(x, 0, 0, "a"), 0);
    }

    /** Refused: what was so before is so behind it, but the TAPE is empty. */
    private static void saidRefused() {
        Supplier<LiarsCock> made = () -> {
            LiarsCock x = talk();
            x.look(0, 15, 80, 100);
            offer(x, 2, 12, "rain");
            return x;
        };
        refused("say by -1", made, NONE, x -> say(x, -1, 40, "rain"));
        refused("say by 3", made, NONE, x -> say(x, 3, 40, "rain"));
        refused("say in 29", made, NONE, x -> say(x, 0, 29, "rain"));
        refused("say in 1440", made, NONE, x -> say(x, 0, 1440, "rain"));
        refused("say in -1", made, NONE, x -> say(x, 0, -1, "rain"));
        refused("say a FAULT", made, 1 + 16 * 5, x -> say(x, 0, 40, "rain rain"));
        refused("say a FAULT at the end", made, 1 + 16 * 4, x -> say(x, 0, 40, "not "));
        refused("a 25th", () -> full(), NONE, x -> say(x, 0, 1439, "a"));
        LiarsCock x = made.get();
        say(x, 3, 40, "rain");
        due("the TAPE is empty then, too: a QUESTION", x.say(0, 40), 0);
        due("never so", x.lie(3, 1), 0);
    }

    /** A QUESTION is never a LIE, and not SO. */
    private static void questions() {
        LiarsCock x = village(TWO + "common a;");
        due("ask", x.say(0, 0), 0);
        due("ask by blanks", say(x, 1, 0, " \n"), 0);
        for (int w = 0; w < 4; w++) {
            due("question 0 in " + w, x.lie(0, w), 0);
            due("question 1 in " + w, x.lie(1, w), 0);
            due("nobody", x.points(0, 1439, w), NONE);
        }
        due("SO in none", x.sure(0), 0);
        due("not hidden", x.hidden(0, 0), NONE);
        due("0 is said, no QUESTION", say(x, 0, 0, "0"), 0);
        due("a LIE", x.lie(2, 0), 6);
    }

    // ---- Promise 5

    private static void offerBounds() {
        bounds("offer by", 0, 1, person -> two().offer(person, 5));
        bounds("offer in minute", 0, 1439, minute -> two().offer(0, minute));
        outside("offer by nobody there", 0, NONE, person -> village("fact a;").offer(person, 5));
        LiarsCock x = two();
        say(x, 0, 700, "a");
        due("any MINUTE: ahead of a SAYING", offer(x, 0, 0, "a"), 0);
        due("any MINUTE: the last", offer(x, 0, 1439, "a"), 0);
        due("any MINUTE: ahead of an OFFER", offer(x, 0, 1438, "a"), 0);
        due("any MINUTE: the first", offer(x, 1, 0, "a"), 0);
    }

    /** 6 at most. */
    private static void offerRow() {
        LiarsCock x = two();
        x.truth(1);
        say(x, 0, 5, "b");
        for (int i = 0; i < 6; i++) {
            due("no set of more than " + i, x.hidden(0, 1 << i), NONE);
            due("offer " + i, i == 2 ? x.offer(0, 0) : offer(x, 0, 0, "a"), 0);
            due("there are", x.count(7), i + 1);
            due("a set of all", x.hidden(0, (2 << i) - 1), 1);
        }
        due("no 7th", offer(x, 0, 0, "a"), NONE);
        due("no 7th with a FAULT", offer(x, 0, 0, "c"), NONE);
        due("no 7th QUESTION", x.offer(0, 0), NONE);
        due("6", x.count(7), 6);
        due("the row of SAYINGS is free", say(x, 0, 5, "a"), 0);
    }

    private static void offerRefused() {
        Supplier<LiarsCock> made = () -> {
            LiarsCock x = talk();
            x.watch(0, 15);
            offer(x, 0, 12, "rain");
            return x;
        };
        refused("offer by -1", made, NONE, x -> offer(x, -1, 40, "rain"));
        refused("offer by 3", made, NONE, x -> offer(x, 3, 40, "rain"));
        refused("offer in 1440", made, NONE, x -> offer(x, 0, 1440, "rain"));
        refused("offer in -1", made, NONE, x -> offer(x, 0, -1, "rain"));
        refused("offer a FAULT", made, 2, x -> offer(x, 0, 40, "gate"));
        refused("a 7th", () -> full(), NONE, x -> offer(x, 0, 0, "a"));
        LiarsCock x = made.get();
        offer(x, 3, 40, "rain");
        due("the TAPE is empty then, too", x.count(10), 0);
    }

    // ---- Promise 6

    /** A WORLD is a set of FACTS: of none 0 alone, of 6 up to 63. */
    private static void truthBounds() {
        String facts = "";
        for (int n = 0; n <= 6; n++) {
            LiarsCock x = village(facts);
            for (int bad : new int[] {-1, 1 << n, LEAST, GREATEST, 64, 65}) {
                due(n + " facts: truth " + bad, x.truth(bad), false);
                due("stays 0", x.count(9), 0);
            }
            due(n + " facts: the last", x.truth((1 << n) - 1), true);
            due("told", x.count(9), (1 << n) - 1);
            due(n + " facts: no such", x.truth(1 << n), false);
            due("stays", x.count(9), (1 << n) - 1);
            due(n + " facts: the first", x.truth(0), true);
            due("told", x.count(9), 0);
            facts += "fact " + (char) ('a' + n) + ";";
        }
    }

    /** 0 at first; it may be one that is not COMMON. */
    private static void truthNotCommon() {
        LiarsCock x = village(TWO + "common b and not b;");
        due("0 at first", x.count(9), 0);
        say(x, 0, 5, "not a");
        x.look(0, 5, 9, 9);
        due("by the 0 at first", x.judged(), 0);
        due("not COMMON", x.truth(3), true);
        due("by it", x.judged(), NONE);
        due("by it", x.turned(0, 5), 1);
        refused("no such truth", () -> talk(), 0, y -> y.truth(4) ? 1 : 0);
        refused("no such truth", () -> talk(), 0, y -> y.truth(-1) ? 1 : 0);
        parish(x, TWO);
        due("0 once more", x.count(9), 0);
    }

    // ---- Promise 7

    private static void lookBounds() {
        bounds("look at cock", 0, 1, cock -> village("cock 1 law 0 late 0;").look(cock, 0, 0, 0));
        bounds("look at the one cock", 0, 0, cock -> two().look(cock, 0, 0, 0));
        bounds("look in minute", 0, 1439, minute -> two().look(0, minute, 0, 0));
        bounds("look from", 0, 359, from -> two().look(0, 0, from, 0));
        bounds("look to", 0, 359, to -> two().look(0, 0, 0, to));
        Supplier<LiarsCock> made = () -> {
            LiarsCock x = talk();
            x.look(0, 15, 80, 100);
            return x;
        };
        refused("look at cock 2", made, NONE, x -> x.look(2, 15, 0, 0));
        refused("look in 1440", made, NONE, x -> x.look(0, 1440, 0, 0));
        refused("look in -1", made, NONE, x -> x.look(0, -1, 0, 0));
        refused("look from 360", made, NONE, x -> x.look(0, 15, 360, 0));
        refused("look to -1", made, NONE, x -> x.look(0, 15, 0, -1));
        refused("a 13th", () -> full(), NONE, x -> x.look(0, 0, 1, 1));
    }

    /** 12 at most: its number. */
    private static void lookRow() {
        LiarsCock x = two();
        for (int i = 0; i < 12; i++) {
            due("look " + i, x.look(0, i, 359, i == 11 ? 359 : 0), i);
            due("there are", x.count(6), i + 1);
        }
        due("no 13th", x.look(0, 0, 0, 0), NONE);
        due("12", x.count(6), 12);
        due("the last counts", x.judged(), 11);
        due("the last counts", x.clash(1), 1 << 11);
        due("the row of WATCHES is free", x.watch(0, 0), 0);
    }

    // ---- Promise 8

    private static void watchBounds() {
        bounds("watch cock", 0, 1, cock -> village("cock 1 law 0 late 0;").watch(cock, 0));
        bounds("watch the one cock", 0, 0, cock -> two().watch(cock, 0));
        bounds("watch in minute", 0, 1439, minute -> two().watch(0, minute));
        Supplier<LiarsCock> made = () -> {
            LiarsCock x = talk();
            x.watch(0, 15);
            return x;
        };
        refused("watch cock 2", made, NONE, x -> x.watch(2, 25));
        refused("watch cock -1", made, NONE, x -> x.watch(-1, 25));
        refused("watch in 1440", made, NONE, x -> x.watch(0, 1440));
        refused("watch in -1", made, NONE, x -> x.watch(0, -1));
        refused("a 5th", () -> full(), NONE, x -> x.watch(0, 23));
    }

    /** 4 at most: its number. */
    private static void watchRow() {
        LiarsCock x = two();
        x.truth(2);
        say(x, 0, 50, "a");
        for (int i = 0; i < 4; i++) {
            due("hidden so far", x.hidden(0, 0), 1);
            due("watch " + i, x.watch(0, i == 3 ? 50 : i), i);
            due("there are", x.count(8), i + 1);
        }
        due("the last counts", x.hidden(0, 0), 0);
        due("no 5th", x.watch(0, 0), NONE);
        due("4", x.count(8), 4);
        due("the row of LOOKS is free", x.look(0, 0, 0, 0), 0);
    }

    /** A SECTOR: that way round by which bearings grow, both too; from 350 to 10 over 0. */
    private static void sectorOfALook() {
        int[][] cases = {{9, 9, 1}, {10, 8, 0}, {10, 10, 0}, {8, 8, 0}, {8, 9, 1}, {9, 10, 1}, {0, 9, 1}, {9, 0, 1},
            {0, 8, 0}, {10, 359, 0}, {350, 9, 1}, {350, 8, 0}, {350, 10, 1}, {10, 9, 1}, {9, 8, 1}, {0, 359, 1},
            {359, 9, 1}, {359, 0, 0}, {300, 20, 1}, {20, 300, 0}};
        for (int[] c : cases) {
            LiarsCock x = two();
            say(x, 0, 5, "0");
            due("look", x.look(0, 5, c[0], c[1]), 0);
            due("9 from " + c[0] + " to " + c[1], x.worlds(NONE), 4 * c[2]);
            due("9 from " + c[0] + " to " + c[1], x.judged(), c[2] == 1 ? NONE : 0);
            due("the PEOPLE from " + c[0] + " to " + c[1], x.sector(c[0], c[1]) & 1, c[2]);
        }
        int[][] nobody = {{0, 0, 1}, {1, 0, 1}, {1, 359, 0}, {359, 0, 1}, {359, 1, 1}, {0, 1, 1}, {1, 1, 0}, {359, 359, 0}};
        for (int[] c : nobody) {
            LiarsCock x = two();
            x.look(0, 1439, c[0], c[1]);
            due("nobody, 0, from " + c[0] + " to " + c[1], x.worlds(NONE), 4 * c[2]);
        }
    }

    // ---- Promise 37

    /** MARKS 0 to 3; nothing is on one that is not laid. */
    private static void markBounds() {
        LiarsCock x = talk();
        for (int mark = 0; mark < 4; mark++) {
            due("back to " + mark, x.mark(mark, true), false);
        }
        for (int bad : new int[] {-1, 4, LEAST, GREATEST}) {
            due("lay " + bad, x.mark(bad, false), false);
            due("back to " + bad, x.mark(bad, true), false);
        }
        for (int mark = 0; mark < 4; mark++) {
            due("lay " + mark, x.mark(mark, false), true);
            due("back to " + mark, x.mark(mark, true), true);
            due("back to the next", x.mark(mark + 1, true), false);
        }
        refused("back to nothing", () -> talk(), 0, y -> y.mark(0, true) ? 1 : 0);
        refused("back to none such", () -> full(), 0, y -> y.mark(4, true) ? 1 : 0);
        refused("lay none such", () -> full(), 0, y -> y.mark(-1, false) ? 1 : 0);
        refused("laying changes nothing", () -> full(), 1, y -> y.mark(3, false) ? 1 : 0);
    }

    /** They hold the PARISH, SAYINGS, LOOKS, OFFERS, WATCHES and the TRUTH as they are; not the TAPE. */
    private static void markOfAll() {
        LiarsCock x = full();
        String image = image(x);
        feed(x, "not a");
        due("lay", x.mark(2, false), true);
        due("the TAPE stays", x.count(10), 5);
        x.say(0, 0);
        parish(x, TWO.replace("knows a", "knows b"));
        say(x, 1, 1, "b");
        offer(x, 1, 1, "b");
        x.look(0, 1, 1, 1);
        x.watch(0, 1439);
        x.truth(3);
        feed(x, "not b");
        due("back", x.mark(2, true), true);
        due("the TAPE stays", x.count(10), 5);
        due("all is as it was", image(x).equals(image), true);
        due("no 25th", x.say(0, 1439), NONE);
        due("no 13th", x.look(0, 0, 0, 0), NONE);
        due("no 7th", x.offer(0, 0), NONE);
        due("no 5th", x.watch(0, 0), NONE);
    }

    /** Each holds its own; what is told behind does not touch it. */
    private static void marksApart() {
        LiarsCock x = two();
        for (int mark = 0; mark < 4; mark++) {
            x.mark(mark, false);
            say(x, 0, mark, "0");
            offer(x, 0, mark, "a");
            x.look(0, mark, 0, 0);
            x.watch(0, mark);
            x.truth(mark);
        }
        for (int mark : new int[] {3, 0, 2, 1, 3}) {
            due("back", x.mark(mark, true), true);
            for (int what = 5; what <= 8; what++) {
                due("of mark " + mark + ": " + what, x.count(what), mark);
            }
            due("of mark " + mark + ": TRUTH", x.count(9), Math.max(0, mark - 1));
            say(x, 1, 9, "0");
            x.look(0, 0, 9, 9);
            x.truth(3);
        }
        x.mark(1, true);
        x.mark(3, false);
        due("laid anew", x.mark(3, true), true);
        due("laid anew", x.count(5), 1);
        due("the others stay", x.mark(2, true), true);
        due("the others stay", x.count(5), 2);
        parish(x, "fact z;");
        due("a new PARISH leaves them", x.mark(2, true), true);
        due("a new PARISH leaves them", x.count(2), 2);
    }

    /** Each LOOK, OFFER, WATCH and SAYING of a MARK as it was told. */
    private static void markOfEach() {
        LiarsCock x = village(TWO + "cock 1 law 1 late 3;");
        int[][] looks = {{0, 5, 0, 9, 1}, {1, 5, 9, 9, 0}, {0, 4, 9, 300, 0}, {1, 8, 350, 9, 1}, {0, 5, 9, 8, 1}, {0, 5, 8, 8, 0}};
        x.truth(1);
        say(x, 0, 5, "not a");
        for (int i = 0; i < looks.length; i++) {
            x.mark(0, false);
            due("look", x.look(looks[i][0], looks[i][1], looks[i][2], looks[i][3]), 0);
            due("so or not", x.judged(), looks[i][4] == 1 ? NONE : 0);
            x.mark(1, false);
            x.mark(0, true);
            due("gone", x.judged(), NONE);
            x.mark(1, true);
            due("there once more", x.judged(), looks[i][4] == 1 ? NONE : 0);
            x.mark(0, true);
        }
        for (int[] look : looks) {
            x.look(look[0], look[1], look[2], look[3]);
        }
        x.mark(2, false);
        parish(x, "");
        x.mark(2, true);
        due("the first that is not so", x.judged(), 1);
        due("not so, each by itself", x.clash(0), 1);
        LiarsCock y = village(TWO);
        say(y, 0, 5, "0");
        y.look(0, 5, 8, 100);
        y.look(0, 5, 350, 8);
        y.mark(0, false);
        y.mark(0, true);
        due("each to its own bearing", y.judged(), 1);
        due("each to its own bearing", y.clash(1), 2);
        offer(x, 1, 5, "0");
        offer(x, 0, 9, "not a");
        x.watch(0, 5);
        x.watch(0, 9);
        x.mark(3, false);
        x.parish();
        x.mark(3, true);
        int[] hidden = {0, 1, 0, 0};
        for (int set = 0; set < 4; set++) {
            due("hidden by " + set, x.hidden(0, set), hidden[set]);
        }
        say(x, 1, 5, "1");
        due("SAYINGS go on in 5", x.count(5), 2);
        due("not ahead of it", say(x, 1, 4, "1"), NONE);
    }

    /** A MARK of a new object. */
    private static void markOfNothing() {
        LiarsCock x = new LiarsCock();
        due("lay", x.mark(0, false), true);
        parish(x, VILLAGE);
        x.truth(3);
        due("back", x.mark(0, true), true);
        due("no FACT", x.count(0), 0);
        due("nobody", x.count(2), 0);
        due("one cock", x.count(4), 1);
        due("TRUTH 0", x.count(9), 0);
    }

    // ---- Promise 38

    private static void countBounds() {
        bounds("count", 0, 11, what -> two().count(what));
        LiarsCock x = full();
        feed(x, "0123456789");
        int[] counts = {2, 2, 2, 0, 2, 24, 12, 6, 4, 2, 10, 4};
        for (int what = 0; what < counts.length; what++) {
            due("full: count " + what, x.count(what), counts[what]);
        }
    }
}
