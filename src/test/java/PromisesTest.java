import java.lang.reflect.Constructor;
import java.lang.reflect.Field;
import java.lang.reflect.Method;
import java.lang.reflect.Modifier;
import java.util.Arrays;
import java.util.NoSuchElementException;
import java.util.Set;
import java.util.TreeSet;

/** At least one test for each promise: ordinary inputs, the edges that the document names, wrong inputs. */
public final class PromisesTest extends Kit {
    public static void main(String[] args) {
        face();
        newObject();
        feed();
        parish();
        faults();
        nesting();
        formulas();
        say();
        offer();
        truth();
        lookAndWatch();
        worlds();
        lies();
        points();
        sure();
        odds();
        proofAndClash();
        nextAndFog();
        learns();
        judged();
        turnedAndRound();
        pointedLongestDiffer();
        hidden();
        secret();
        sectorAndBlind();
        toldAndFewest();
        person();
        lookout();
        move();
        mark();
        count();
        unasked();
        end();
    }

    // ---- the public face

    private static void face() {
        Set<String> names = new TreeSet<>();
        for (Method m : LiarsCock.class.getDeclaredMethods()) {
            if (!Modifier.isPrivate(m.getModifiers())) {
                names.add(m.getName());
                due(m.getName() + " is public", Modifier.isPublic(m.getModifiers()), true);
            }
        }
        Set<String> told = new TreeSet<>(Set.of("feed", "parish", "say", "offer", "truth", "look", "watch", "world", "lie",
            "points", "worlds", "sureFact", "sure", "odds", "proof", "clash", "next", "fog", "learns", "judged", "turned",
            "pointed", "round", "hidden", "hide", "secret", "sector", "blind", "told", "fewest", "person", "lookout",
            "move", "longest", "differ", "mark", "count"));
        due("methods " + names, names.equals(told), true);
        for (Field f : LiarsCock.class.getDeclaredFields()) {
            due("field " + f.getName(), Modifier.isPrivate(f.getModifiers()), !f.getName().equals("NONE"));
        }
        Constructor<?>[] made = LiarsCock.class.getDeclaredConstructors();
        due("constructors", made.length, 1);
        due("final", Modifier.isFinal(LiarsCock.class.getModifiers()), true);
        due("NONE", LiarsCock.NONE, -1);
    }

    private static void newObject() {
        LiarsCock x = new LiarsCock();
        int[] counts = {0, 0, 0, 0, 1, 0, 0, 0, 0, 0, 0, 1};
        for (int i = 0; i < counts.length; i++) {
            due("new count " + i, x.count(i), counts[i]);
        }
        due("new worlds", x.worlds(NONE), 1);
        due("new world 0", x.world(0), 2);
        due("new points", x.points(0, 0, 0), NONE);
        due("new look", x.look(0, 0, 0, 0), 0);
        due("new look at what can't be", x.look(0, 0, 1, 1), 1);
        due("new clash", x.clash(1), 2);
        due("new say", x.say(0, 0), NONE);
        due("new blind", x.blind(180, 1), 0);
    }

    // ---- the TAPE

    private static void feed() {
        LiarsCock x = new LiarsCock();
        due("feed by bytes", x.feed(0x6162636465666768L, 0x69L, 0x7A00000000000000L), 10);
        due("feed others", x.feed(0x0A0920_1F_7E7F_80FFL, 0, -1L), 13);
        due("feed none", x.feed(0, 0, 0), 13);
        x = village("fact a;");
        due("order of signs", x.feed(0x6E6F742000000000L, 0x61L, 0x0A20000000000000L), 7);
        due("not a", x.say(0, 0), NONE);
        due("taken", x.count(10), 0);
        for (int i = 1; i <= 41; i++) {
            due("feed " + i, x.feed(0x2020202020202020L, 0x2020202020202020L, 0x2020202020202020L), 24 * i);
        }
        due("up to 1,000", x.feed(0x2020202020202020L, 0x2020202020202020L, 0x6161616161616161L), 1000);
        due("no more", x.feed(0x2020202020202020L, 0, 0), 1000);
        due("only blanks", x.parish(), 0);
    }

    private static void parish() {
        LiarsCock x = village(VILLAGE);
        due("facts", x.count(0), 2);
        due("common worlds", x.count(11), 3);
        say(x, 0, 5, "rain");
        offer(x, 0, 5, "rain");
        x.look(0, 5, 0, 0);
        x.watch(0, 5);
        x.truth(3);
        x.mark(2, false);
        due("faulty", parish(x, "fact a; fact"), 12 * 16 + 1);
        for (int what : new int[] {5, 6, 7, 8}) {
            due("all stays " + what, x.count(what), 1);
        }
        due("all stays: truth", x.count(9), 3);
        due("tape taken", x.count(10), 0);
        due("nothing told", x.parish(), 0);
        for (int what : new int[] {0, 1, 2, 3, 5, 6, 7, 8, 9}) {
            due("all gone " + what, x.count(what), 0);
        }
        due("one cock", x.count(4), 1);
        due("but MARKS", x.mark(2, true), true);
        due("as it was", x.count(9), 3);
        x = village("cock 1 law 1 late 60;");
        due("both cocks", x.count(4), 2);
        due("cock 0 is there", x.watch(0, 0), 0);
        x = village("cock 01law 0000late 07;fact\na\n;place aa bearing 359;person b at aa knows a;common 12*a=12or a;");
        due("no blanks, zeros ahead", x.count(3), 1);
        x = village("fact abcdefgh;fact a;fact b;fact c;fact d;fact e chance 0;place p bearing 0;place q bearing 0;"
            + "place r bearing 0;place s bearing 0;place t bearing 0;place u bearing 0;person aa at p knows;"
            + "person ab at p knows;person ac at p knows;person ad at p knows;person ae at p knows;"
            + "person af at p knows abcdefgh a b c d e;common 1;common 1;common 1;common e;");
        int[] counts = {6, 6, 6, 4, 1};
        for (int i = 0; i < counts.length; i++) {
            due("as many as can be " + i, x.count(i), counts[i]);
        }
        due("chance 0, and common not so", x.odds(5, 0), NONE);
    }

    private static void fault(String text, int kind, int place) {
        due("fault of " + text, parish(new LiarsCock(), text), kind + 16 * place);
    }

    /** The FAULT is at the sign ^, which is left out. */
    private static void fault(String text, int kind) {
        int place = text.indexOf('^');
        fault(text.substring(0, place) + text.substring(place + 1), kind, place);
    }

    private static void faults() {
        fault("^#", 1);
        fault("^Fact a;", 1);
        fault("^at", 1);
        fault("^;", 1);
        fault("fact ^", 1);
        fault("fact a^", 1);
        fault("fact a  ^", 1);
        fault("fact ^7;", 1);
        fault("fact ^chance;", 1);
        fault("fact ^abcdefghi;", 1);
        fault("fact a ^b;", 1);
        fault("fact a ^fact b;", 1);
        fault("fact a chance ^fact b;", 1);
        fault("fact a chance 1 ^12345;", 1);
        fault("place a bearing 1 ^fact b;", 1);
        fault("place a bearing ^place b bearing 0;", 1);
        fault("place a ^place b bearing 0;", 1);
        fault("place a bearing 0;person b at a ^fact c;", 1);
        fault("place a bearing 0;person b at ^fact c;", 1);
        fault("common 1 ^common 1;", 1);
        fault("cock ^cock 0 law 0 late 0;", 1);
        fault("cock 0 ^cock 0 law 0 late 0;", 1);
        fault("cock 0 law ^fact a;", 1);
        fault("cock 0 law 0 ^fact a;", 1);
        fault("cock 0 law 0 late ^fact a;", 1);
        fault("cock 0 law 0 late 0 ^fact a;", 1);
        fault("fact a;fact b;fact c;fact d;fact e;fact f;place p bearing 0;person q at p knows a f b e c d ^a;", 3);
        fault("fact a;fact b;fact c;fact d;fact e;fact f;place p bearing 0;person q at p knows a f b e c d ^g;", 2);
        fault("fact a chance ^a;", 1);
        fault("fact a chance ^12345;", 1);
        fault("fact a chance ^11;", 4);
        fault("fact a chance 10 ^5;", 1);
        fault("fact a;fact ^a;", 3);
        fault("fact a;place ^a", 3);
        fault("place a bearing 0;person ^a", 3);
        fault("place a bearing 0;person b at a knows;fact ^b", 3);
        fault("fact a;fact b;fact c;fact d;fact e;fact f;^fact a", 5);
        fault("place a ^;", 1);
        fault("place a bearing ^360;", 4);
        fault("place a bearing 1;place b bearing 1;place c bearing 1;place d bearing 1;place e bearing 1;"
            + "place f bearing 1;^place", 5);
        fault("person a ^knows", 1);
        fault("person a at ^a", 2);
        fault("fact b;person a at ^b", 2);
        fault("person a at ^at", 1);
        fault("person a at ^5", 1);
        fault("place p bearing 0;person a at p^;", 1, 31);
        fault("place p bearing 0;person a at p knows ^p;", 2);
        fault("place p bearing 0;person a at p knows ^not;", 1);
        fault("place p bearing 0;fact f;person a at p knows f ^f;", 3);
        fault("place p bearing 0;fact f;person a at p knows f^", 1);
        fault("place p bearing 0;person a at p knows;person b at p knows;person c at p knows;person d at p knows;"
            + "person e at p knows;person f at p knows;^person", 5);
        fault("common ^;", 1);
        fault("common ^a;fact a;", 2);
        fault("fact a;common a ^", 1);
        fault("common 1;common 2;common 3;common 4;^common 5;", 5);
        fault("cock ^a", 1);
        fault("cock ^2 law 0 late 0;", 4);
        fault("cock 1 ^late", 1);
        fault("cock 1 law ^2", 4);
        fault("cock 1 law 1 late ^61", 4);
        fault("cock 1 law 1 late 60;cock ^1", 3);
        fault("cock 0 law 1 late 60;cock ^0000", 3);
        fault("cock 1 law 1 late 60 ^", 1);
    }

    private static void eFault(String text, int kind) {
        int place = text.indexOf('^');
        LiarsCock x = village("fact a;fact b;place p bearing 5;person q at p knows;");
        due("fault of " + text, say(x, 0, 0, text.substring(0, place) + text.substring(place + 1)), kind + 16 * place);
        due("not there", x.count(5), 0);
    }

    private static void nesting() {
        eFault("not not not not not ^a", 5);
        eFault("not not not not not ^not a", 5);
        eFault("(((((^1)))))", 5);
        eFault("(not(not(^(", 5);
        eFault("(not(not(^)", 1);
        eFault("(((((^c", 2);
        eFault("(((((^;", 1);
        eFault("(((((^", 1);
        eFault("((((a))))+not(not(not ^7))", 5);
        eFault("((((a)^", 1);
        LiarsCock x = village("fact a;fact b;place p bearing 5;person q at p knows;");
        due("4 round it", say(x, 0, 0, "not not not not a and (((( b )))) and (not ( not 1 ) )"), 0);
    }

    private static void formulas() {
        eFault("a ^b", 1);
        eFault("^p", 2);
        eFault("^q", 2);
        eFault("a and ^fact", 1);
        eFault("a < b ^< a", 1);
        eFault("a = b ^= a", 1);
        eFault("a +^", 1);
        eFault("a ^)", 1);
        eFault("^-a", 1);
        eFault("a^;", 1);
        eFault("^12345", 1);
        eFault("1 + ^abcdefghi", 1);
        eFault("a^#", 1);
        eFault("a ^A", 1);
        eFault("1^a", 1);
        eFault("a^1", 1);
        so("a", 0b1010);
        so("not a", 0b0101);
        so("a + b", 0b1110);
        so("a - b", 0b0110);
        so("a * b", 0b1000);
        so("a < b", 0b0100);
        so("a = b", 0b1001);
        so("0 and 0 or a", 0b1010);
        so("a or b and 0", 0);
        so("1 or 1 and 0", 0);
        so("a + b * 2 = 3", 0b1000);
        so("(a + b) * 2 = 2", 0b0110);
        so("2 - 1 - 1", 0);
        so("not a + 1 = 2", 0b0101);
        so("not a * b = 1", 0b0100);
        so("7 and 2 = 1", 0);
        so("(7 and 2) = 1", 0b1111);
        so("not 7 = 0", 0b1111);
        so("a - 1 < 0", 0b0101);
        so("4096 * 4096 * 256", 0);
        so("4096 * 4096 * 128 < 0", 0b1111);
        so("9999=9999and a", 0b1010);
    }

    /** The WORLDS of two FACTS in which an E is SO. */
    private static void so(String text, int worlds) {
        LiarsCock x = village("fact a;fact b;place p bearing 5;person q at p knows;");
        due("say " + text, say(x, 0, 0, text), 0);
        int so = 0;
        for (int w = 0; w < 4; w++) {
            so |= (x.lie(0, w) & 1) << w;
        }
        due("SO: " + text, so, worlds);
        due("as common: " + text, parish(x, "fact a;fact b;common " + text + ";"), 0);
        so = 0;
        for (int w = 0; w < 4; w++) {
            so |= (x.world(w) > 0 ? 1 : 0) << w;
        }
        due("COMMON: " + text, so, worlds);
    }

    // ---- SAYINGS, OFFERS, LOOKS, WATCHES

    private static void say() {
        LiarsCock x = village(VILLAGE);
        due("nobody such", say(x, 3, 0, "rain"), NONE);
        due("taken", x.count(10), 0);
        due("nobody", say(x, -1, 0, "rain"), NONE);
        due("no minute", say(x, 0, 1440, "rain"), NONE);
        due("no minute", say(x, 0, -1, "rain"), NONE);
        due("fault", say(x, 0, 3, "gate"), 2);
        due("taken", x.count(10), 0);
        due("none so far", x.count(5), 0);
        due("say", say(x, 0, 3, "rain"), 0);
        due("ahead", say(x, 0, 2, "rain"), NONE);
        due("the same minute", say(x, 1, 3, "theft"), 0);
        due("blanks are a question", say(x, 1, 3, " \n "), 0);
        for (int i = 3; i < 24; i++) {
            due("say " + i, say(x, 0, 1439, "1"), 0);
        }
        due("a 25th", say(x, 0, 1439, "1"), NONE);
        due("24", x.count(5), 24);
        due("the last one is there", x.lie(23, 0), 1);
    }

    private static void offer() {
        LiarsCock x = village(VILLAGE);
        say(x, 0, 100, "rain");
        due("nobody such", offer(x, 3, 0, "rain"), NONE);
        due("no minute", offer(x, 0, 1440, "rain"), NONE);
        due("taken", x.count(10), 0);
        due("fault", offer(x, 0, 3, "rain +"), 6 * 16 + 1);
        due("any minute", offer(x, 0, 50, "rain"), 0);
        due("any minute", offer(x, 0, 40, "rain"), 0);
        due("a question", offer(x, 0, 40, ""), 0);
        for (int i = 3; i < 6; i++) {
            due("offer " + i, offer(x, 2, 1439, "1"), 0);
        }
        due("a 7th", offer(x, 2, 1439, "1"), NONE);
        due("6", x.count(7), 6);
    }

    private static void truth() {
        LiarsCock x = village(VILLAGE);
        due("truth -1", x.truth(-1), false);
        due("truth 4", x.truth(4), false);
        due("truth 2, not common", x.truth(2), true);
        due("told", x.count(9), 2);
        due("truth 4", x.truth(4), false);
        due("stays", x.count(9), 2);
    }

    private static void lookAndWatch() {
        LiarsCock x = village("cock 1 law 0 late 0;");
        int[][] bad = {{2, 0, 0, 0}, {-1, 0, 0, 0}, {0, 1440, 0, 0}, {0, -1, 0, 0}, {0, 0, 360, 0}, {0, 0, -1, 0},
            {0, 0, 0, 360}, {0, 0, 0, -1}};
        for (int[] b : bad) {
            due("look " + Arrays.toString(b), x.look(b[0], b[1], b[2], b[3]), NONE);
        }
        due("watch 2", x.watch(2, 0), NONE);
        due("watch -1", x.watch(-1, 0), NONE);
        due("watch no minute", x.watch(0, 1440), NONE);
        due("watch no minute", x.watch(0, -1), NONE);
        for (int i = 0; i < 12; i++) {
            due("look " + i, x.look(i % 2, 1439 - i, 359, 0), i);
        }
        due("a 13th", x.look(0, 0, 0, 0), NONE);
        for (int i = 0; i < 4; i++) {
            due("watch " + i, x.watch(i % 2, 1439), i);
        }
        due("a 5th", x.watch(0, 0), NONE);
        due("no cock 1", village("fact a;").look(1, 0, 0, 0), NONE);
        due("no cock 1", village("fact a;").watch(1, 0), NONE);
    }

    // ---- WORLDS

    private static void worlds() {
        LiarsCock x = talk();
        due("not common", x.world(2), 0);
        due("can be", x.world(0), 2);
        due("no world", x.world(4), NONE);
        due("no world", x.world(-1), NONE);
        due("worlds", x.worlds(NONE), 3);
        due("rain", x.worlds(0), 2);
        due("no fact", x.worlds(2), NONE);
        due("no fact", x.worlds(-2), NONE);
        due("late: nobody yet", x.look(0, 11, 0, 0), 0);
        due("that tells nothing", x.worlds(NONE), 3);
        due("tom", x.look(0, 12, 90, 90), 1);
        due("worlds", x.worlds(NONE), 2);
        due("world 0 is common", x.world(0), 1);
        due("each cock", x.look(1, 25, 0, 269), 2);
        due("worlds", x.worlds(NONE), 1);
        due("can be", x.world(3), 2);
        LiarsCock six = village("fact a;fact b;fact c;fact d;fact e;fact f;common f + e;common not a;");
        due("6 facts", six.worlds(NONE), 24);
        due("f", six.worlds(5), 16);
        due("a", six.worlds(0), 0);
        due("world 63", six.world(63), 0);
        due("world 62", six.world(62), 2);
        due("world 64", six.world(64), NONE);
        parish(six, "fact a;fact b;fact c;fact d;fact e;fact f;place p bearing 0;person q at p knows a;common a;");
        due("say not f", say(six, 0, 0, "not f"), 0);
        due("lie in world 63", six.lie(0, 63), 2);
        due("lie in world 62", six.lie(0, 62), 6);
        due("lie in world 31", six.lie(0, 31), 1);
        x = talk();
        x.look(0, 12, 350, 90);
        due("over 0, both too", x.worlds(NONE), 3);
        x.look(0, 12, 91, 0);
        due("that way round", x.worlds(NONE), 1);
    }

    private static void lies() {
        LiarsCock x = talk();
        int[][] want = {{1, 6, 1, 6}, {6, 6, 5, 1}, {0, 0, 0, 0}};
        for (int s = 0; s < 3; s++) {
            for (int w = 0; w < 4; w++) {
                due("lie " + s + " " + w, x.lie(s, w), want[s][w]);
            }
        }
        due("no saying", x.lie(3, 0), NONE);
        due("no saying", x.lie(-1, 0), NONE);
        due("no world", x.lie(0, 4), NONE);
        due("no world", x.lie(0, -1), NONE);
        say(x, 2, 30, "theft");
        due("who knows nothing may err", x.lie(3, 0), 2);
        say(x, 2, 30, "theft and not rain");
        due("but not against what is common", x.lie(4, 0), 6);
        due("nor in a world that is not", x.lie(4, 2), 5);
        say(x, 0, 30, "theft");
        due("tom may err if it rains", x.lie(5, 1), 2);
        due("not if it does not", x.lie(5, 0), 6);
    }

    private static void points() {
        LiarsCock x = talk();
        due("ahead of late", x.points(0, 11, 1), NONE);
        due("late", x.points(0, 12, 1), 0);
        due("the last liar", x.points(0, 22, 1), 1);
        due("a question is no lie", x.points(0, 1439, 1), 1);
        due("other world", x.points(0, 1439, 3), 0);
        due("other cock", x.points(1, 10, 1), 0);
        due("not common, by law 1", x.points(1, 1439, 2), 1);
        due("no minute", x.points(0, 1440, 1), NONE);
        due("no minute", x.points(0, -1, 1), NONE);
        due("no cock", x.points(2, 12, 1), NONE);
        due("no world", x.points(0, 12, 4), NONE);
        say(x, 2, 40, "0");
        say(x, 0, 40, "0");
        due("of one minute the last", x.points(0, 42, 0), 0);
    }

    private static void sure() {
        LiarsCock x = talk();
        due("open", x.sureFact(0), 2);
        due("open", x.sure(0), 2);
        due("a question is not so", x.sure(2), 0);
        due("no fact", x.sureFact(2), NONE);
        due("no fact", x.sureFact(-1), NONE);
        due("no saying", x.sure(3), NONE);
        due("no saying", x.sure(-1), NONE);
        x.look(0, 12, 90, 90);
        due("it rains", x.sureFact(0), 1);
        due("not so", x.sure(0), 0);
        due("theft is open", x.sureFact(1), 2);
        x.look(0, 22, 270, 270);
        due("no theft", x.sureFact(1), 0);
        x.look(0, 22, 0, 0);
        due("none can be", x.sureFact(1), 3);
        due("none can be", x.sure(2), 3);
    }

    private static void odds() {
        LiarsCock x = talk();
        due("5 of 9", x.odds(0, 0), 5);
        due("5 of 9", x.odds(0, 1), 9);
        due("1 of 9", x.odds(1, 0), 1);
        due("1 of 9", x.odds(1, 1), 9);
        due("what", x.odds(0, 2), NONE);
        due("what", x.odds(0, -1), NONE);
        due("no fact", x.odds(2, 0), NONE);
        due("no fact", x.odds(-1, 0), NONE);
        x = village("fact a chance 0;fact b chance 10;fact c chance 4;fact d;fact e;fact f chance 7;");
        due("none", x.odds(0, 0), 0);
        due("none", x.odds(0, 1), 1);
        due("all", x.odds(1, 0), 1);
        due("all", x.odds(1, 1), 1);
        due("2 of 5", x.odds(2, 0), 2);
        due("2 of 5", x.odds(2, 1), 5);
        due("7 of 10", x.odds(5, 0), 7);
        x = village("fact a chance 0;common a;");
        due("no weight", x.odds(0, 1), NONE);
    }

    private static void proofAndClash() {
        LiarsCock x = talk();
        due("open", x.proof(0, 0), NONE);
        due("a question needs none", x.proof(2, 0), 0);
        due("a question needs none", x.proof(2, 1), 0);
        due("nothing clashes", x.clash(0), NONE);
        x.look(0, 25, 0, 300);
        x.look(1, 15, 90, 90);
        x.look(0, 25, 80, 100);
        x.look(1, 25, 80, 100);
        due("it rains: how many", x.proof(0, 0), 1);
        due("it rains: the least", x.proof(0, 1), 2);
        due("theft: the least", x.proof(1, 1), 4);
        due("what", x.proof(1, 2), NONE);
        due("no saying", x.proof(3, 0), NONE);
        due("no saying", x.proof(-1, 0), NONE);
        due("no clash", x.clash(1), NONE);
        x.look(0, 25, 200, 300);
        due("clash", x.clash(0), 2);
        due("clash", x.clash(1), 16 + 4);
        due("what", x.clash(2), NONE);
        due("no proof", x.proof(2, 0), NONE);
        x = village("fact a;common a;common not a;");
        due("nothing is common", x.clash(0), 0);
        due("nothing is common", x.clash(1), 0);
        x = village("fact a;fact b;place p bearing 9;person t at p knows;cock 1 law 0 late 60;");
        say(x, 0, 0, "a");
        say(x, 0, 100, "a and b");
        x.look(0, 5, 9, 9);
        x.look(0, 5, 9, 10);
        x.look(0, 100, 0, 0);
        due("one of the first two, and the last", x.clash(1), 5);
    }

    private static void nextAndFog() {
        LiarsCock x = talk();
        due("next", x.next(0, 0, 50, 0), 12);
        due("next", x.next(0, 0, 50, 1), 2);
        due("next of cock 1", x.next(1, 0, 1439, 0), 10);
        due("in 30 .. 40 the first", x.next(0, 30, 40, 0), 30);
        due("one minute", x.next(0, 11, 11, 1), 3);
        due("fog", x.fog(0, 0, 50, 0), 12);
        due("fog", x.fog(0, 0, 50, 1), 2);
        due("fog ahead", x.fog(0, 3, 11, 0), 3);
        due("fog ahead", x.fog(0, 3, 11, 1), 1);
        int[][] bad = {{2, 0, 5, 0}, {-1, 0, 5, 0}, {0, 6, 5, 0}, {0, -1, 5, 0}, {0, 0, 1440, 0}, {0, 0, 5, 2}};
        for (int[] b : bad) {
            due("next " + Arrays.toString(b), x.next(b[0], b[1], b[2], b[3]), NONE);
            due("fog " + Arrays.toString(b), x.fog(b[0], b[1], b[2], b[3]), NONE);
        }
        say(x, 2, 30, "not rain");
        say(x, 1, 40, "not theft");
        due("two ways to point", x.fog(0, 0, 1439, 1), 2);
        say(x, 0, 50, "rain");
        due("three ways", x.fog(0, 0, 1439, 1), 3);
        due("three ways", x.fog(0, 0, 1439, 0), 52);
        due("one is left", x.next(0, 0, 1439, 1), 1);
        due("one is left", x.next(0, 0, 1439, 0), 52);
        x.look(0, 0, 5, 5);
        due("none can be", x.next(0, 0, 50, 0), NONE);
        due("none can be", x.fog(0, 0, 50, 0), NONE);
        x = village("fact a;place p bearing 0;person t at p knows;");
        say(x, 0, 5, "a");
        due("at nobody is at 0, too", x.fog(0, 0, 50, 1), 1);
    }

    private static void learns() {
        LiarsCock x = talk();
        due("theft", x.learns(0, 1, true, 30, 0), 0);
        due("no theft", x.learns(0, 1, false, 30, 0), 1);
        due("rain, known", x.learns(0, 0, true, 30, 0), 1);
        due("at the last minute", x.learns(0, 1, false, 1437, 0), 1);
        due("behind it", x.learns(0, 1, false, 1438, 0), NONE);
        due("not late", x.learns(0, 1, false, 1439, 1), 1);
        due("no minute", x.learns(0, 1, false, 1440, 1), NONE);
        due("ahead", x.learns(0, 1, false, 29, 0), NONE);
        due("no cock", x.learns(0, 1, false, 30, 2), NONE);
        due("nobody", x.learns(3, 1, false, 30, 0), NONE);
        due("nobody", x.learns(-1, 1, false, 30, 0), NONE);
        due("no fact", x.learns(0, 2, false, 30, 0), NONE);
        due("nothing is said by it", x.count(5), 3);
        x.truth(2);
        due("sue knows what no world has", x.learns(1, 0, true, 30, 0), NONE);
        x.look(0, 0, 5, 5);
        due("no world", x.learns(0, 1, false, 30, 0), NONE);
        x = village(VILLAGE);
        due("bob, by the first saying", x.learns(2, 1, true, 0, 0), 1);
        due("bob, by law 1", x.learns(2, 1, true, 0, 1), 0);
        for (int i = 0; i < 24; i++) {
            say(x, 2, 0, "1");
        }
        due("behind 24 sayings", x.learns(2, 1, true, 0, 0), 1);
    }

    // ---- by the TRUTH

    private static void judged() {
        LiarsCock x = talk();
        due("no look", x.judged(), NONE);
        x.look(0, 12, 90, 90);
        x.look(0, 22, 270, 270);
        due("all so", x.judged(), NONE);
        x.look(1, 9, 1, 1);
        x.look(1, 9, 2, 2);
        due("the first", x.judged(), 2);
        x.truth(3);
        due("by the truth", x.judged(), 1);
        x.truth(0);
        due("by the truth", x.judged(), 0);
    }

    private static void turnedAndRound() {
        LiarsCock x = talk();
        int[][] want = {{0, 0, 0}, {11, 0, 0}, {12, 1, 90}, {21, 1, 90}, {22, 2, 270}, {1439, 2, 270}};
        for (int[] w : want) {
            due("turned " + w[0], x.turned(0, w[0]), w[1]);
            due("round " + w[0], x.round(0, w[0]), w[2]);
        }
        say(x, 2, 100, "0");
        due("270 to 350", x.round(0, 1439), 350);
        say(x, 0, 200, "0");
        due("350 to 90", x.round(0, 1439), 450);
        say(x, 0, 210, "0");
        due("the same one again", x.turned(0, 1439), 4);
        say(x, 1, 220, "0");
        say(x, 0, 220, "0");
        due("within a minute it does not turn", x.turned(0, 1439), 4);
        due("cock 1", x.turned(1, 15), 1);
        int[][] bad = {{2, 0}, {-1, 0}, {0, 1440}, {0, -1}};
        for (int[] b : bad) {
            due("turned " + Arrays.toString(b), x.turned(b[0], b[1]), NONE);
            due("round " + Arrays.toString(b), x.round(b[0], b[1]), NONE);
        }
        x = village("fact a;place p bearing 0;person t at p knows;person u at p knows;");
        say(x, 0, 0, "a");
        due("in minute 0", x.turned(0, 0), 1);
        say(x, 1, 1, "a");
        due("at the same bearing", x.turned(0, 1), 2);
        due("no way", x.round(0, 1), 0);
        due("no cock 1", x.turned(1, 1), NONE);
    }

    private static void pointedLongestDiffer() {
        LiarsCock x = talk();
        due("tom", x.pointed(0, 0, 0, 50), 10);
        due("sue", x.pointed(0, 1, 0, 50), 29);
        due("nobody", x.pointed(0, NONE, 0, 50), 12);
        due("bob", x.pointed(0, 2, 0, 1439), 0);
        due("both ends", x.pointed(0, 0, 12, 21), 10);
        due("one minute", x.pointed(0, 0, 21, 21), 1);
        due("no such", x.pointed(0, 3, 0, 50), NONE);
        due("no such", x.pointed(0, -2, 0, 50), NONE);
        due("back", x.pointed(0, 0, 50, 0), NONE);
        due("no minute", x.pointed(0, 0, 0, 1440), NONE);
        due("no minute", x.pointed(0, 0, -1, 50), NONE);
        due("no cock", x.pointed(2, 0, 0, 50), NONE);
        due("longest", x.longest(0, 0, 50, 0), 29);
        due("longest", x.longest(0, 0, 50, 1), 1);
        due("the first of equal ones", x.longest(0, 12, 31, 1), 0);
        due("nobody", x.longest(0, 0, 11, 0), NONE);
        due("what", x.longest(0, 0, 50, 2), NONE);
        due("back", x.longest(0, 50, 0, 0), NONE);
        due("no cock", x.longest(-1, 0, 50, 0), NONE);
        due("differ", x.differ(0, 50), 4);
        due("differ", x.differ(11, 20), 2);
        due("nobody and tom differ", x.differ(10, 10), 1);
        due("back", x.differ(50, 0), NONE);
        due("no minute", x.differ(0, 1440), NONE);
        say(x, 1, 60, "theft");
        due("behind one another", x.longest(0, 0, 1439, 0), 1418);
        due("one cock", village("fact a;").differ(0, 50), NONE);
    }

    // ---- how a lie is hidden

    private static void hidden() {
        LiarsCock x = talk();
        due("no watch: all common worlds fit", x.hidden(0, 0), 1);
        x.watch(0, 15);
        x.watch(0, 25);
        due("seen", x.hidden(0, 0), 0);
        due("seen", x.hidden(1, 0), 0);
        due("a question", x.hidden(2, 0), NONE);
        due("no saying", x.hidden(3, 0), NONE);
        due("none does", x.hide(0, 0), NONE);
        offer(x, 1, 13, "rain");
        offer(x, 0, 12, "rain");
        int[] want = {0, 0, 1, 0};
        for (int set = 0; set < 4; set++) {
            due("hidden by " + set, x.hidden(0, set), want[set]);
        }
        due("no set", x.hidden(0, 4), NONE);
        due("no set", x.hidden(0, -1), NONE);
        due("hide", x.hide(0, 0), 1);
        due("hide", x.hide(0, 1), 2);
        due("what", x.hide(0, 2), NONE);
        due("none does", x.hide(1, 0), NONE);
        due("a question", x.hide(2, 0), NONE);
        x.look(0, 0, 5, 5);
        due("looks do not count", x.hidden(0, 2), 1);
        x.truth(0);
        due("no lie", x.hidden(0, 0), NONE);
        due("no lie", x.hide(0, 0), NONE);
        sameMinute();
        noneFits();
        full();
    }

    /** 24 SAYINGS by turns, 5 OFFERS ahead of them and one behind them. */
    private static void full() {
        LiarsCock x = village("fact a;place p bearing 9;person t at p knows;place q bearing 20;person u at q knows;");
        x.truth(1);
        x.watch(0, 50);
        for (int i = 1; i <= 24; i++) {
            say(x, i % 2, i, "not a");
        }
        due("24 turns", x.turned(0, 1439), 24);
        due("11 degrees each", x.round(0, 1439), 20 + 23 * 11);
        due("the last part", x.pointed(0, 0, 0, 1439), 11 + 1416);
        offer(x, 1, 30, "0");
        for (int i = 1; i < 6; i++) {
            offer(x, 1, 0, "0");
        }
        due("seen", x.hidden(0, 0), 0);
        due("seen with the 5 ahead as well", x.hidden(23, 62), 0);
        for (int i = 0; i < 24; i++) {
            due("hidden by the one behind", x.hidden(i, 63), 1);
        }
        due("hide", x.hide(7, 1), 1);
        x.watch(0, 0);
        due("by the ones ahead", x.hidden(0, 63), 1);
    }

    private static void sameMinute() {
        LiarsCock x = village("fact a;place p bearing 9;person t at p knows;person u at p knows;place q bearing 20;"
            + "person v at q knows;");
        x.truth(1);
        say(x, 0, 5, "not a");
        x.watch(0, 5);
        due("seen", x.hidden(0, 0), 0);
        offer(x, 2, 5, "0");
        offer(x, 0, 5, "not a");
        due("an offer is behind a saying of its minute", x.hidden(0, 1), 1);
        due("offers by their order", x.hidden(0, 3), 0);
    }

    private static void noneFits() {
        LiarsCock x = village("fact a;common not a;place p bearing 9;person t at p knows;");
        x.truth(1);
        say(x, 0, 5, "not a");
        say(x, 0, 6, "a and not a");
        x.watch(0, 5);
        due("none fits", x.hidden(0, 0), 1);
        due("none fits", x.hidden(1, 0), 1);
    }

    private static void secret() {
        LiarsCock x = talk();
        due("1 of 8", x.secret(0, 0, 5, 3, 0), 1);
        due("1 of 8", x.secret(0, 0, 5, 3, 1), 8);
        due("10 minutes of 12", x.secret(0, 0, 5, 12, 1), 1024);
        due("3 of 5, twice", x.secret(0, 0, 4, 2, 0), 9);
        due("3 of 5, twice", x.secret(0, 0, 4, 2, 1), 25);
        due("9 of 10, 15 times", x.secret(1, 0, 1, 15, 0), 205891132094649L);
        due("9 of 10, 15 times", x.secret(1, 0, 1, 15, 1), 1000000000000000L);
        int[][] bad = {{2, 0, 5, 3, 0}, {3, 0, 5, 3, 0}, {-1, 0, 5, 3, 0}, {0, 2, 5, 3, 0}, {0, -1, 5, 3, 0},
            {0, 0, 0, 3, 0}, {0, 0, 10, 3, 0}, {0, 0, 5, 0, 0}, {0, 0, 5, 16, 0}, {0, 0, 5, 3, 2}, {0, 0, 5, 3, -1}};
        for (int[] b : bad) {
            noSecret(x, b);
        }
        say(x, 1, 1430, "0");
        due("up to 1439", x.secret(3, 0, 5, 8, 1), 256);
        noSecret(x, new int[] {3, 0, 5, 9, 0});
        due("not late", x.secret(3, 1, 5, 10, 1), 1024);
        say(x, 0, 1430, "not rain");
        due("never pointed at", x.secret(3, 0, 5, 8, 1), 1);
        x.truth(0);
        noSecret(x, new int[] {0, 0, 5, 3, 0});
    }

    private static void noSecret(LiarsCock x, int[] a) {
        boolean thrown = false;
        try {
            x.secret(a[0], a[1], a[2], a[3], a[4]);
        } catch (NoSuchElementException e) {
            thrown = true;
        }
        due("secret throws " + Arrays.toString(a), thrown, true);
    }

    // ---- PEOPLE and PLACES

    private static void sectorAndBlind() {
        LiarsCock x = village(VILLAGE);
        due("tom", x.sector(90, 90), 1);
        due("over 0", x.sector(350, 90), 5);
        due("all", x.sector(10, 9), 7);
        due("sue", x.sector(91, 349), 2);
        due("none", x.sector(0, 89), 0);
        due("no bearing", x.sector(360, 0), NONE);
        due("no bearing", x.sector(0, -1), NONE);
        due("over 0: 100 between 350 and 90", x.blind(100, 0), 2);
        due("one crowd", x.blind(100, 1), 3);
        due("80 between 270 and 350", x.blind(80, 0), 1);
        due("80", x.blind(80, 1), 2);
        due("79", x.blind(79, 0), 0);
        due("79", x.blind(79, 1), 1);
        due("180", x.blind(180, 0), 3);
        due("181", x.blind(181, 0), NONE);
        due("-1", x.blind(-1, 0), NONE);
        due("what", x.blind(0, 2), NONE);
        x = village("place a bearing 1;place b bearing 1;person t at a knows;person u at b knows;person v at b knows;");
        due("no width", x.blind(0, 0), 3);
        due("no width", x.blind(0, 1), 3);
    }

    private static void toldAndFewest() {
        LiarsCock x = village(VILLAGE);
        x.truth(1);
        due("nobody", x.told(0), 0);
        due("tom", x.told(1), 1);
        due("sue", x.told(2), 3);
        due("bob", x.told(4), 0);
        due("no set", x.told(8), NONE);
        due("no set", x.told(-1), NONE);
        due("rain", x.fewest(0, 1), 1);
        due("theft", x.fewest(1, 1), 2);
        due("one", x.fewest(1, 0), 1);
        due("what", x.fewest(1, 2), NONE);
        due("no fact", x.fewest(2, 0), NONE);
        x.truth(0);
        due("no rain, no theft", x.told(1), 3);
        due("tom tells both", x.fewest(1, 1), 1);
        x.truth(2);
        due("no such world", x.told(2), 0);
        due("by none: theft is told by nobody", x.fewest(1, 1), 1);
        x = village("fact a;fact b;place p bearing 0;common a;person t at p knows;person u at p knows;");
        due("perhaps nobody", x.fewest(0, 0), 0);
        due("by no set", x.fewest(1, 0), NONE);
        x = village("fact a;fact b;fact c;place p bearing 0;common c = a * b;person s at p knows;person t at p knows a;"
            + "person u at p knows b;person v at p knows b;");
        x.truth(7);
        due("two of them", x.fewest(2, 0), 2);
        due("the least two", x.fewest(2, 1), 6);
    }

    private static void person() {
        LiarsCock x = village(VILLAGE);
        int[][] want = {{0, 90, 1}, {1, 270, 3}, {2, 350, 0}};
        for (int p = 0; p < 3; p++) {
            for (int what = 0; what < 3; what++) {
                due("person " + p + " " + what, x.person(p, what), want[p][what]);
            }
        }
        due("what", x.person(0, 3), NONE);
        due("what", x.person(0, -1), NONE);
        due("nobody", x.person(3, 0), NONE);
        due("nobody", x.person(-1, 0), NONE);
    }

    private static void lookout() {
        LiarsCock x = talk();
        due("one", x.lookout(0, 0, 0), 1);
        due("at", x.lookout(0, 0, 1), 12);
        due("beyond", x.lookout(0, 0, 2), NONE);
        due("theft", x.lookout(0, 1, 1), 22);
        int[][] bad = {{2, 0, 0}, {-1, 0, 0}, {0, 2, 0}, {0, -1, 0}, {0, 0, 4}, {0, 0, -1}};
        for (int[] b : bad) {
            due("lookout " + Arrays.toString(b), x.lookout(b[0], b[1], b[2]), NONE);
        }
        x.look(0, 12, 90, 90);
        due("sure", x.lookout(0, 0, 0), 0);
        due("sure", x.lookout(0, 0, 1), NONE);
        x.look(0, 12, 0, 0);
        due("none can be", x.lookout(0, 0, 0), NONE);
        lookoutOfMore();
    }

    /** The FACT is the odd one of some: only all their looks together tell it. */
    private static void lookoutOfMore() {
        String people = "place p bearing 9;place q bearing 0;person t at p knows;person u at q knows;";
        LiarsCock x = village("fact a;fact b;fact c;fact d;common d = (a+b+c=1) + (a+b+c=3);" + people);
        due("nothing is said", x.lookout(0, 0, 0), NONE);
        say(x, 0, 10, "a");
        say(x, 1, 20, "0");
        say(x, 0, 30, "b");
        due("not yet", x.lookout(0, 3, 0), NONE);
        say(x, 1, 40, "0");
        say(x, 0, 50, "c");
        due("three", x.lookout(0, 3, 0), 3);
        for (int i = 1; i <= 3; i++) {
            due("look " + i, x.lookout(0, 3, i), 20 * i - 10);
        }
        x = village("fact a;fact b;fact c;common c = (a = b);" + people);
        say(x, 0, 10, "a");
        say(x, 0, 20, "a");
        say(x, 1, 30, "0");
        say(x, 0, 40, "b");
        due("two", x.lookout(0, 2, 0), 2);
        due("two", x.lookout(0, 2, 1), 10);
        due("two", x.lookout(0, 2, 2), 40);
        due("no third", x.lookout(0, 2, 3), NONE);
        x = village("fact a;" + people + "cock 0 law 0 late 10;");
        say(x, 0, 1430, "a");
        due("behind the last minute", x.lookout(0, 0, 0), NONE);
        x = village("fact a;" + people + "cock 0 law 0 late 10;");
        say(x, 0, 1429, "a");
        due("in the last minute", x.lookout(0, 0, 1), 1439);
    }

    private static void move() {
        LiarsCock x = talk();
        due("tom: no rain", x.move(0, NONE), 1);
        due("sue: no rain", x.move(0, 0), 13);
        due("tom for cock 1", x.move(1, NONE), 1);
        due("but sue", x.move(1, 1), 1);
        due("no cock", x.move(2, NONE), NONE);
        due("nobody such", x.move(0, 3), NONE);
        due("nobody such", x.move(0, -2), NONE);
        x.truth(0);
        due("tom: rain", x.move(0, NONE), 0);
        x = village("fact a;fact b;place p bearing 0;person t at p knows b;cock 1 law 1 late 0;");
        due("who does not know can't lie", x.move(1, NONE), 2);
        x.truth(2);
        due("who does not know can't lie", x.move(1, NONE), 3);
        due("all but the only one", x.move(0, 0), NONE);
        due("nobody", village("fact a;").move(0, NONE), NONE);
    }

    // ---- MARKS and counts

    private static void mark() {
        LiarsCock x = talk();
        x.look(0, 12, 90, 90);
        x.watch(0, 12);
        offer(x, 0, 12, "rain");
        due("nothing on it", x.mark(3, true), false);
        due("none such", x.mark(4, false), false);
        due("none such", x.mark(-1, true), false);
        due("laid", x.mark(3, false), true);
        feed(x, "abc");
        say(x, 0, 99, "rain");
        x.truth(0);
        x.look(0, 3, 3, 3);
        x.watch(1, 1);
        due("parish", parish(x, "fact z;"), 0);
        feed(x, "abc");
        due("back", x.mark(3, true), true);
        int[] counts = {2, 3, 3, 1, 2, 3, 1, 1, 1, 1, 3, 3};
        for (int i = 0; i < counts.length; i++) {
            due("back: count " + i, x.count(i), counts[i]);
        }
        due("sayings", x.points(0, 22, 1), 1);
        due("looks", x.worlds(NONE), 2);
        x.parish();
        say(x, 0, 99, "rain");
        due("back again", x.mark(3, true), true);
        due("the mark is as it was laid", x.count(5), 3);
        x.truth(3);
        due("laid anew", x.mark(3, false), true);
        x.truth(0);
        x.mark(3, true);
        due("as laid anew", x.count(9), 3);
        due("others are free", x.mark(0, true), false);
    }

    private static void count() {
        LiarsCock x = talk();
        x.look(0, 12, 90, 90);
        x.watch(0, 12);
        x.watch(0, 12);
        offer(x, 0, 12, "rain");
        feed(x, "rain ");
        int[] counts = {2, 3, 3, 1, 2, 3, 1, 1, 2, 1, 5, 3};
        for (int i = 0; i < counts.length; i++) {
            due("count " + i, x.count(i), counts[i]);
        }
        due("count 12", x.count(12), NONE);
        due("count -1", x.count(-1), NONE);
    }

    /** What asks changes nothing. */
    private static void unasked() {
        LiarsCock x = talk();
        LiarsCock y = talk();
        offer(x, 0, 12, "rain");
        offer(y, 0, 12, "rain");
        y.hidden(0, 1);
        y.hide(0, 0);
        y.learns(0, 1, false, 30, 0);
        y.lookout(0, 1, 0);
        y.next(0, 0, 50, 0);
        y.differ(0, 50);
        y.clash(0);
        y.proof(2, 0);
        for (int w = 0; w < 4; w++) {
            for (int m = 0; m < 60; m++) {
                due("unasked", y.points(0, m, w), x.points(0, m, w));
            }
        }
        due("unasked", y.count(5), x.count(5));
    }
}
