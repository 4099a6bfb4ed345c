/** The boundary cases that the document names for the TAPE, the TOKENS, the PARISH, the E, and their FAULTS. */
public final class TextBoundsTest extends Kit {
    /** As many of all as can be: names of FACTS a .. f, of PLACES pa .. pf, of PEOPLE qa .. qf. */
    private static final String FULL = "fact a;fact b;fact c;fact d;fact e;fact f;"
        + "place pa bearing 0;place pb bearing 1;place pc bearing 2;place pd bearing 3;place pe bearing 4;"
        + "place pf bearing 359;"
        + "person qa at pa knows;person qb at pb knows b;person qc at pc knows c;person qd at pd knows d;"
        + "person qe at pe knows e;person qf at pf knows a b c d e f;"
        + "common 1;common 2;common 3;common 9999;cock 0 law 1 late 60;cock 1 law 0 late 0;";
    private static final String SMALL = "fact a;fact b;place p bearing 5;person q at p knows a;";
    private static final String[] NO_NAMES = {"fact", "chance", "place", "bearing", "person", "at", "knows", "common",
        "cock", "law", "late", "not", "and", "or"};

    public static void main(String[] args) {
        signsOfTheTape();
        orderOfTheTape();
        endOfTheTape();
        whoTakesTheTape();
        words();
        numbers();
        blanks();
        noTokens();
        emptyParish();
        fullParish();
        oneTooMany();
        names();
        namesAlike();
        knows();
        told();
        cocks();
        numbersAsTold();
        endOfTheText();
        leastOfTheFaults();
        within();
        precedence();
        whatIsNotZero();
        wrapAround();
        longE();
        commonWorlds();
        refusedParish();
        newParish();
        end();
    }

    /** The FAULT of a PARISH, told with a ^ ahead of the token that is wrong. */
    private static void fault(String text, int kind) {
        int place = text.indexOf('^');
        String told = text.substring(0, place) + text.substring(place + 1);
        due("fault of " + text, parish(new LiarsCock(), told), kind + 16 * place);
    }

    /** The FAULT of an E that is said, offered, and told as common. */
    private static void eFault(String text, int kind) {
        int place = text.indexOf('^');
        String told = text.substring(0, place) + text.substring(place + 1);
        LiarsCock x = village(SMALL);
        due("fault of saying " + text, say(x, 0, 0, told), kind + 16 * place);
        due("nothing is said", x.count(5), 0);
        due("fault of offering " + text, offer(x, 0, 0, told), kind + 16 * place);
        due("nothing is offered", x.count(7), 0);
        String ahead = "fact a;fact b;common ";
        due("fault of common " + text, parish(x, ahead + told), kind + 16 * (ahead.length() + place));
        due("nothing is told", x.count(2), 1);
    }

    /** The WORLDS of the FACTS a and b in which an E is SO, by a SAYING and by what is COMMON. */
    private static void so(String text, int worlds) {
        LiarsCock x = village(SMALL);
        due("say " + text, say(x, 0, 0, text), 0);
        int so = 0;
        for (int w = 0; w < 4; w++) {
            so |= (x.lie(0, w) & 1) << w;
        }
        due("SO: " + text, so, worlds);
        due("common " + text, parish(x, "fact a;fact b;common " + text + ";"), 0);
        so = 0;
        for (int w = 0; w < 4; w++) {
            so |= (x.world(w) > 0 ? 1 : 0) << w;
        }
        due("COMMON: " + text, so, worlds);
    }

    // ---- the TAPE

    /** Signs: 10 and 32 .. 126. */
    private static void signsOfTheTape() {
        for (int sign = 0; sign < 256; sign++) {
            boolean taken = sign == 10 || sign >= 32 && sign <= 126;
            LiarsCock x = new LiarsCock();
            due("sign " + sign + " as the first", x.feed((long) sign << 56, 0, 0), taken ? 1 : 0);
            due("sign " + sign + " as the last", x.feed(0, 0, sign), taken ? 2 : 0);
        }
        LiarsCock x = new LiarsCock();
        due("up to 24", x.feed(0x2020202020202020L, 0x2020202020202020L, 0x2020202020202020L), 24);
        due("none", x.feed(0, 0, 0), 24);
        due("none of -1", x.feed(-1, -1, -1), 24);
        due("none of the least", x.feed(Long.MIN_VALUE, Long.MIN_VALUE, Long.MIN_VALUE), 24);
        due("one of the greatest: 127 and 255", x.feed(Long.MAX_VALUE, Long.MAX_VALUE, Long.MAX_VALUE), 24);
    }

    /** The bytes of a, b, c, of each the highest first; what is left out leaves no gap. */
    private static void orderOfTheTape() {
        LiarsCock x = new LiarsCock();
        due("fact ab;", x.feed(0x66610963740A0061L, 0x62L << 56 | 0x7FL, 0x3BL), 8);
        due("is read as one", x.parish(), 0);
        due("is one fact", x.count(0), 1);
        x = new LiarsCock();
        x.feed(0x6600000000000000L, 0x61L, 0x6374L);
        due("behind the TAPE", x.feed(0x2061L, 0x3B00L, 0), 7);
        due("fact a;", x.parish(), 0);
    }

    /** At most 1,000 signs; what is beyond is left out. */
    private static void endOfTheTape() {
        LiarsCock x = new LiarsCock();
        due("991", feed(x, " ".repeat(991)), 991);
        due("999", x.feed(0x2020202020202020L, 0, 0), 999);
        due("1,000", x.feed(0x20L, 0, 0), 1000);
        due("no 1,001st", x.feed(0x20L, 0, 0), 1000);
        due("none at all", x.feed(0x2020202020202020L, 0x2020202020202020L, 0x2020202020202020L), 1000);
        due("what is beyond is not read", parish(x, "#"), 0);
        due("the 1,000th is read", parish(x, " ".repeat(999) + "#"), 1 + 16 * 999);
        due("the end is at 1,000", parish(x, " ".repeat(997) + "fact a;"), 1 + 16 * 997);
        due("a text that fits", parish(x, " ".repeat(993) + "fact a;"), 0);
        due("it is cut at 1,000", parish(x, " ".repeat(994) + "fact a;"), 1 + 16 * 1000);
        due("the rest comes once it is read", x.feed(0x3BL, 0, 0), 1);
    }

    /** What reads the TAPE takes it: it is empty then, whatever is answered; other calls leave it. */
    private static void whoTakesTheTape() {
        LiarsCock x = village(SMALL);
        due("read", x.count(10), 0);
        parish(x, "fact");
        due("with a FAULT", x.count(10), 0);
        say(x, 0, 0, "a");
        due("said", x.count(10), 0);
        say(x, 0, 0, "a a");
        due("a FAULT is said", x.count(10), 0);
        say(x, 1, 0, "a");
        due("said by nobody", x.count(10), 0);
        offer(x, 0, 0, "a");
        due("offered", x.count(10), 0);
        offer(x, 0, 0, "a a");
        due("a FAULT is offered", x.count(10), 0);
        offer(x, 0, 1440, "a");
        due("offered in no MINUTE", x.count(10), 0);
        feed(x, "not a");
        x.mark(0, false);
        x.truth(1);
        x.look(0, 0, 0, 0);
        x.watch(0, 0);
        x.learns(0, 0, true, 0, 0);
        x.move(0, NONE);
        x.hide(0, 0);
        x.mark(0, true);
        due("others leave it", x.count(10), 5);
        due("it is as fed", x.say(0, 0), 0);
        due("not a", x.lie(1, 1) & 1, 0);
        due("not a", x.lie(1, 0) & 1, 1);
    }

    // ---- TOKENS

    /** WORDS: letters a .. z, 8 at most. */
    private static void words() {
        due("1 letter", parish(new LiarsCock(), "fact a;"), 0);
        due("a to z", parish(new LiarsCock(), "fact z;fact az;"), 0);
        due("8 letters", parish(new LiarsCock(), "fact abcdefgh;fact abcdefgi;fact bbcdefgh;"), 0);
        fault("fact abcdefgh;fact ^abcdefgh;", 3);
        fault("fact ^abcdefghi;", 1);
        fault("fact ^abcdefghabcdefghabcdefgh;", 1);
        fault("fact ^`;", 1);
        fault("fact ^{;", 1);
        fault("fact a^{;", 1);
        fault("fact ^A;", 1);
        fault("fact ^Z;", 1);
        fault("fact a^Z;", 1);
        fault("^Fact a;", 1);
        fault("^facta;", 1);
        fault("fact ^_;", 1);
        eFault("^abcdefghi", 1);
        eFault("^abcdefgh", 2);
        eFault("not ^abcdefghi", 1);
        so("a\nand\nb", 8);
    }

    /** NUMBERS: 1 to 4 digits; a letter may stand right behind. */
    private static void numbers() {
        so("1", 15);
        so("0", 0);
        so("0000", 0);
        so("9999+1-1=9999", 15);
        so("9999", 15);
        so("1and a", 10);
        so("0001=1and a", 10);
        so("2=1or b", 12);
        eFault("^12345", 1);
        eFault("^00000", 1);
        eFault("^1234567890123456789012", 1);
        eFault("1 ^2", 1);
        eFault("1234 ^5", 1);
        eFault("1^a", 1);
        eFault("^/", 1);
        eFault("^:", 1);
        eFault("1^:", 1);
        eFault("1^.0", 1);
        fault("cock ^00000 law 0 late 0;", 1);
        due("4 digits", parish(new LiarsCock(), "cock 0001law 0000late 0060;"), 0);
    }

    /** Blanks (10, 32) between where one likes. */
    private static void blanks() {
        due("as few as can be", parish(new LiarsCock(), "fact a chance 1;place p bearing 5;person q at p knows a;"), 0);
        due("many", parish(new LiarsCock(), "\n fact \n\n a\nchance\n1 ; \n"), 0);
        so("a*b+a=2or b<a", 2 + 8);
        so(" ( a )\n*\n( not b )\n", 2);
        eFault("a\n \n^b", 1);
        eFault(" \n^p", 2);
        due("of blanks alone: a QUESTION", say(village(SMALL), 0, 0, " \n\n "), 0);
        due("of blanks alone: an empty PARISH", parish(new LiarsCock(), "\n \n"), 0);
    }

    /** All else is none: of the signs 33 .. 126 there are ( ) < = + - * ; */
    private static void noTokens() {
        for (char sign = 33; sign <= 126; sign++) {
            boolean isOfToken = sign >= 'a' && sign <= 'z' || sign >= '0' && sign <= '9' || "()<=+-*;".indexOf(sign) >= 0;
            if (!isOfToken) {
                eFault("^" + sign, 1);
                eFault("a + ^" + sign, 1);
                eFault("a ^" + sign, 1);
                fault("^" + sign, 1);
                fault("fact a^" + sign, 1);
            }
        }
    }

    // ---- the PARISH

    /** Any number of lines: none. */
    private static void emptyParish() {
        LiarsCock x = village(VILLAGE);
        due("nothing", x.parish(), 0);
        int[] counts = {0, 0, 0, 0, 1, 0, 0, 0, 0, 0, 0, 1};
        for (int what = 0; what < counts.length; what++) {
            due("nothing: count " + what, x.count(what), counts[what]);
        }
        due("nobody", x.person(0, 0), NONE);
        due("the one WORLD", x.world(0), 2);
        due("no other", x.world(1), NONE);
    }

    /** FACTS, PLACES, PEOPLE, 6 at most, numbered as told, common 4 at most. */
    private static void fullParish() {
        LiarsCock x = village(FULL);
        int[] counts = {6, 6, 6, 4, 2};
        for (int what = 0; what < counts.length; what++) {
            due("full: count " + what, x.count(what), counts[what]);
        }
        int[] bearings = {0, 1, 2, 3, 4, 359};
        int[] known = {0, 2, 4, 8, 16, 63};
        for (int p = 0; p < 6; p++) {
            due("place of " + p, x.person(p, 0), p);
            due("bearing of " + p, x.person(p, 1), bearings[p]);
            due("what " + p + " knows", x.person(p, 2), known[p]);
        }
        due("64 COMMON WORLDS", x.count(11), 64);
        for (int f = 0; f < 6; f++) {
            due("say " + f, say(x, 0, f, String.valueOf((char) ('a' + f))), 0);
            due("so as numbered", x.lie(f, 1 << f) & 1, 1);
            due("not so", x.lie(f, 63 - (1 << f)) & 1, 0);
        }
        x = village(FULL.replace("common 9999", "common f and not a"));
        due("the last common", x.count(11), 16);
        due("all are told once more", parish(x, FULL), 0);
    }

    /** The word fact, place, person of a seventh, common of a fifth. */
    private static void oneTooMany() {
        fault(FULL + "^fact g;", 5);
        fault(FULL + "^fact", 5);
        fault(FULL + "^fact a;", 5);
        fault(FULL + "^place g bearing 0;", 5);
        fault(FULL + "^person g at pa knows;", 5);
        fault(FULL + "^person qa", 5);
        fault(FULL + "^common 1;", 5);
        fault(FULL + "^common", 5);
        fault(FULL + "cock ^0", 3);
        fault(FULL + "cock ^1", 3);
        fault(FULL + "cock ^2", 4);
        fault(FULL + "^facts", 1);
        fault("fact a;fact b;fact c;fact d;fact e;fact ^fact", 1);
        fault("fact a;fact b;fact c;fact d;fact e;fact f ^fact", 1);
    }

    /** A NAME is another WORD than these 14. */
    private static void names() {
        for (String word : NO_NAMES) {
            fault("fact ^" + word + ";", 1);
            fault("place ^" + word + " bearing 0;", 1);
            fault("place p bearing 0;person ^" + word + " at p knows;", 1);
            fault("place p bearing 0;person q at ^" + word + " knows;", 1);
            fault("fact a;place p bearing 0;person q at p knows ^" + word + ";", 1);
            if (!word.equals("not")) {
                eFault("a + ^" + word, 1);
            }
            String longer = word.length() < 8 ? word + "s" : "x";
            String shorter = word.substring(1);
            due("but " + longer + ", " + shorter,
                parish(new LiarsCock(), "fact " + longer + ";fact " + shorter + ";common " + longer + ";"), 0);
        }
    }

    /** No two that are told (of FACTS, PLACES, PEOPLE together) are alike. */
    private static void namesAlike() {
        String some = "fact a;fact b;place c bearing 0;place d bearing 1;person e at c knows;person f at d knows;";
        for (char name = 'a'; name <= 'f'; name++) {
            fault(some + "fact ^" + name + ";", 3);
            fault(some + "place ^" + name + " bearing 0;", 3);
            fault(some + "person ^" + name + " at c knows;", 3);
        }
        due("in the next PARISH it is free", parish(village(some), "place a bearing 0;fact c;person b at a knows c;"), 0);
        due("behind a FAULT it is free", parish(faulty("fact g;fact"), "fact g;"), 0);
    }

    private static LiarsCock faulty(String text) {
        LiarsCock x = new LiarsCock();
        due("faulty " + text, parish(x, text) != 0, true);
        return x;
    }

    /** FACTS told, each once, or none. */
    private static void knows() {
        String six = "fact a;fact b;fact c;fact d;fact e;fact f;place p bearing 0;person q at p knows";
        due("none", village(six + ";").person(0, 2), 0);
        due("all six, in any order", village(six + " f a e b d c;").person(0, 2), 63);
        due("the last", village(six + " f;").person(0, 2), 32);
        fault(six + " f a e b d c ^f;", 3);
        fault(six + " f a e b d c ^c;", 3);
        fault(six + " f a e b d c ^g;", 2);
        fault(six + " f a e b d c ^", 1);
        fault("place p bearing 0;person q at ^knows;", 1);
        fault("place p bearing 0;person q at ^;fact a;", 1);
        fault("place p bearing 0;person q at ^fact a;", 1);
        fault("place p bearing 0;person q ^;fact a;", 1);
        fault("place p bearing 0;person q at p^;fact a;", 1);
        fault(six + " a ^a;", 3);
        fault(six + " a b ^a;", 3);
        fault(six + " ^p;", 2);
        fault(six + " ^q;", 2);
        fault(six + " ^1;", 1);
        fault(six + " ^", 1);
        fault("place p bearing 0;person q at p knows ^a;fact a;", 2);
        due("two may know the same", parish(new LiarsCock(), six + " a;person r at p knows a;"), 0);
    }

    /** The PLACE told, the FACTS told: ahead, not behind. */
    private static void told() {
        fault("person q at ^p knows;place p bearing 0;", 2);
        fault("fact p;person q at ^p knows;", 2);
        fault("place p bearing 0;person q at p knows;person r at ^q knows;", 2);
        fault("place p bearing 0;person q at ^q knows;", 2);
        fault("common ^a;fact a;", 2);
        fault("place p bearing 0;common ^p;", 2);
        fault("place p bearing 0;person q at p knows;common ^q;", 2);
        LiarsCock x = village("fact a;common a;fact b;place p bearing 7;person q at p knows a;common a or b;fact c;");
        due("lines in any order", x.count(11), 4);
        due("lines in any order", x.count(0), 3);
        due("common of the first alone", x.world(6), 0);
        due("common of the first alone", x.world(1), 2);
    }

    /** cock: 0 or 1, each once; without a line cock 0 is there, law 0, late 0; cock 1 is not. */
    private static void cocks() {
        String told = SMALL.replace("knows a", "knows") + "common a = b;";
        for (String lines : new String[] {"", "cock 0 law 0 late 0;", "cock 1 law 1 late 5;"}) {
            LiarsCock x = village(told + lines);
            due("cocks of " + lines, x.count(4), lines.startsWith("cock 1") ? 2 : 1);
            due("cock 0", x.watch(0, 0), 0);
            due("cock 1", x.watch(1, 0), lines.startsWith("cock 1") ? 1 : NONE);
            say(x, 0, 3, "a");
            due("late 0", x.points(0, 3, 0), 0);
            due("law 0: no LIE of who knows nothing by law 1", x.lie(0, 0), 2);
            due("cock 1 by law 1", x.points(1, 1439, 0), NONE);
        }
        LiarsCock x = village(told + "cock 0 law 1 late 60;");
        say(x, 0, 3, "a and not b");
        due("late 60, one less", x.points(0, 62, 3), NONE);
        due("late 60", x.points(0, 63, 3), 0);
        fault("cock 0 law 0 late 0;cock ^0 law 0 late 0;", 3);
        fault("cock 1 law 0 late 0;cock ^1 law 0 late 0;", 3);
        fault("cock 1 law 0 late 0;cock 0 law 0 late 0;cock ^1 law 0 late 0;", 3);
        due("both, 1 ahead", parish(x, "cock 1 law 0 late 0;cock 0 law 1 late 0;"), 0);
        due("both", x.count(4), 2);
        due("each once in a PARISH", parish(x, "cock 1 law 0 late 0;"), 0);
        due("without a line once more", parish(x, told), 0);
        due("one", x.count(4), 1);
        say(x, 0, 3, "a");
        due("law 0, late 0 once more", x.points(0, 3, 0), 0);
    }

    /** CHANCE 0 to 10, bearing 0 to 359, cock 0 or 1, law 0 or 1, late 0 to 60. */
    private static void numbersAsTold() {
        String[][] told = {{"fact a chance ", ";", "10"}, {"place p bearing ", ";", "359"},
            {"cock ", " law 0 late 0;", "1"}, {"cock 1 law ", " late 0;", "1"}, {"cock 1 law 1 late ", ";", "60"}};
        for (String[] t : told) {
            int last = Integer.parseInt(t[2]);
            for (int n : new int[] {0, 1, last - 1, last}) {
                due(t[0] + n, parish(new LiarsCock(), t[0] + n + t[1]), 0);
            }
            due(t[0] + "000", parish(new LiarsCock(), t[0] + "000" + t[1]), 0);
            fault(t[0] + "^" + (last + 1) + t[1], 4);
            fault(t[0] + "^9999" + t[1], 4);
            fault(t[0] + "^10000" + t[1], 1);
            fault(t[0] + "^-1" + t[1], 1);
            fault(t[0] + "^a" + t[1], 1);
            fault(t[0] + "^;", 1);
            fault(t[0] + "^", 1);
        }
        LiarsCock x = village("fact a chance 0;fact b chance 10;fact c;fact d chance 5;fact e chance 9;fact f chance 1;");
        int[] above = {0, 1, 1, 1, 9, 1};
        int[] below = {1, 1, 2, 2, 10, 10};
        for (int f = 0; f < 6; f++) {
            due("chance of " + f, x.odds(f, 0), above[f]);
            due("chance of " + f, x.odds(f, 1), below[f]);
        }
        x = village("place p bearing 0;place q bearing 359;person r at p knows;person s at q knows;");
        due("bearing 0", x.person(0, 1), 0);
        due("bearing 359", x.person(1, 1), 359);
    }

    /** The end is one at the text's length: behind the blanks, too. */
    private static void endOfTheText() {
        String[] cut = {"fact", "fact a", "fact a chance", "fact a chance 3", "place", "place p", "place p bearing",
            "place p bearing 5", "person", "person q", "person q at", "place p bearing 5;person q at p",
            "place p bearing 5;person q at p knows", "fact a;place p bearing 5;person q at p knows a", "common", "common 1",
            "common 1 +", "common (1", "cock", "cock 1", "cock 1 law", "cock 1 law 0", "cock 1 law 0 late",
            "cock 1 law 0 late 7"};
        for (String text : cut) {
            fault(text + "^", 1);
            fault(text + " ^", 1);
            fault(" " + text + "\n \n^", 1);
        }
        for (String text : new String[] {"a +", "(a", "(", "not", "a <", "a =", "a and", "a or", "a *", "a -", "((a)"}) {
            atTheEnd(text);
            atTheEnd(text + " ");
            atTheEnd("\n" + text + " \n ");
        }
    }

    private static void atTheEnd(String text) {
        LiarsCock x = village(SMALL);
        due("end of " + text, say(x, 0, 0, text), 1 + 16 * text.length());
        due("end of " + text, offer(x, 0, 0, text), 1 + 16 * text.length());
    }

    /** Of the first token from the left that is wrong the least. */
    private static void leastOfTheFaults() {
        eFault("^x # y", 2);
        eFault("^# x", 1);
        eFault("a ^x", 1);
        eFault("not not not not not ^x", 2);
        eFault("not not not not not ^#", 1);
        eFault("not not not not not ^12345", 1);
        eFault("not not not not not ^abcdefghi", 1);
        eFault("not not not not not ^)", 1);
        eFault("not not not not not ^and", 1);
        eFault("not not not not not ^", 1);
        eFault("not not not not not ^a x", 5);
        eFault("not not not not not ^9999 #", 5);
        fault("fact a;fact ^a #", 3);
        fault("fact a chance ^11 #", 4);
        fault("fact a chance 10 ^# chance 11", 1);
        fault("place p bearing 0;person q at ^x #", 2);
        fault("cock 0 law ^2 late 61;", 4);
        fault("cock 0 law 0 late ^61 #", 4);
    }

    /** No PART lies within 5 of not and ( ); the fault is that of not, or a PART, within 5 others. */
    private static void within() {
        String[] good = {"not not not not a", "((((a))))", "not(not(a))", "(not(not b))", "not not((1))",
            "((((a))))+((((b))))", "not not not not a*not not not not b", "not not not not a and ((((b))))"};
        for (String e : good) {
            due("within 4: " + e, say(village(SMALL), 0, 0, e), 0);
            due("within 4: common " + e, parish(new LiarsCock(), SMALL + "common " + e + ";"), 0);
        }
        eFault("not not not not not ^a", 5);
        eFault("not not not not not ^1", 5);
        eFault("not not not not not ^not not a", 5);
        eFault("not not not not not ^(a)", 5);
        eFault("(((((^a)))))", 5);
        eFault("(((((^not a)))))", 5);
        eFault("(((((^((a)))))))", 5);
        eFault("(not(not(^(1", 5);
        eFault("not(not(not ^a))", 5);
        eFault("not (a + not (b + not ^a))", 5);
        eFault("((((a))))+(((((^a", 5);
        for (String join : new String[] {"and", "or", "<", "=", "+", "-", "*"}) {
            eFault("((((a " + join + " (^a", 5);
            eFault("((((a " + join + " not ^a", 5);
            eFault("(((a " + join + " ((^a", 5);
            so("((((a)))) " + join + " ((((a))))", "and".equals(join) || "or".equals(join) || "+*".contains(join) ? 10
                : "=".equals(join) ? 15 : 0);
        }
        eFault("((((a + (^) ))))", 1);
        eFault("((((a))))^)", 1);
        so("not not not not a", 10);
        so("not (not a)", 10);
        so("not (not (a))", 10);
    }

    /** E, TEST, SUM, PRODUCT, PART. */
    private static void precedence() {
        so("a or b and 0", 0);
        so("0 and a or b", 12);
        so("a and b or not a and b", 4 + 8);
        so("a or b = 0", 1 + 2 + 8);
        so("a + b < 1", 1);
        so("a < b + 1", 15 - 2);
        so("a + 1 = b + 1", 9);
        so("a - b - 1 = 0 - 1", 9);
        so("a * 2 + b = 3", 8);
        so("b + a * 2 = 3", 8);
        so("2 * (b + a) = 2", 6);
        so("not a + b", 1 + 4 + 8);
        so("not (a + b)", 1);
        so("not a = b", 2 + 4);
        so("not a * 0", 0);
        so("a * not b", 2);
        so("1 < 1", 0);
        so("1 < 2", 15);
        so("2 < 1", 0);
        so("1 = 1", 15);
        so("0 - 1 < 0", 15);
        eFault("a < b ^< a", 1);
        eFault("a < b ^= a", 1);
        eFault("a = b ^< a", 1);
        eFault("a = b ^= a", 1);
        eFault("^- a", 1);
        eFault("a + ^+ b", 1);
        eFault("a + ^* b", 1);
        eFault("a ^not b", 1);
        eFault("a ^(b)", 1);
        eFault("(^)", 1);
        due("a ; ends common alone", say(village(SMALL), 0, 0, "a;"), 1 + 16);
    }

    /** What is not 0 is so; of not, and, or, < and = comes 1 or 0. */
    private static void whatIsNotZero() {
        so("2", 15);
        so("a - 1", 5);
        so("0 - 9999", 15);
        so("a * 2", 10);
        so("(2 and 3) = 1", 15);
        so("(2 or 0) = 1", 15);
        so("(0 or 3) = 1", 15);
        so("(0 or 0) = 0", 15);
        so("(2 and 0) = 0", 15);
        so("(0 and 2) = 0", 15);
        so("(1 < 3) = 1", 15);
        so("(3 = 3) = 1", 15);
        so("(3 = 2) = 0", 15);
        so("not 2 = 0", 15);
        so("not 0 = 1", 15);
        so("not (0 - 1) = 0", 15);
        so("a + a = 2", 10);
        so("(a = 1) + (b = 1) = 2", 8);
    }

    /** Ints wrap. */
    private static void wrapAround() {
        so("4096*4096*128<0", 15);
        so("4096*4096*128-1=4096*4096*64-1+4096*4096*64", 15);
        so("0<4096*4096*128-1", 15);
        so("4096*4096*256", 0);
        so("4096*4096*256+a", 10);
        so("0-4096*4096*128<0", 15);
        so("4096*4096*128+4096*4096*128=0", 15);
        so("4096*4096*128=0-4096*4096*128", 15);
    }

    /** As long an E as the TAPE holds, and as many PARTS that wait as can be. */
    private static void longE() {
        String ones = "1+".repeat(497) + "1=498";
        due("999 signs", ones.length(), 999);
        LiarsCock x = village(SMALL);
        due("say 1,000 signs", say(x, 0, 0, " " + ones), 0);
        due("they are 498", x.lie(0, 0) & 1, 1);
        due("one sign too many", say(x, 0, 0, "1+".repeat(498) + "1=499"), 0);
        due("the last is cut off: = 49", x.lie(1, 0) & 1, 0);
        String waits = "0or 0<0+1*";
        due("all wait", say(x, 0, 0, (waits + "(").repeat(4) + waits + "a" + ")".repeat(4)), 0);
        due("a", x.lie(2, 1) & 1, 1);
        due("not a", x.lie(2, 2) & 1, 0);
        due("a NUMBER of 1,000 digits", say(x, 0, 0, "1".repeat(1000)), 1);
        due("a WORD of 1,000 letters", say(x, 0, 0, "a".repeat(1000)), 1);
        due("1,000 not", say(x, 0, 0, "not ".repeat(250)), 5 + 16 * 20);
        due("1,000 (", say(x, 0, 0, "(".repeat(1000)), 5 + 16 * 5);
        due("1,000 )", say(x, 0, 0, ")".repeat(1000)), 1);
        due("1,000 ;", parish(x, ";".repeat(1000)), 1);
        due("999 TOKENS", say(x, 0, 0, "a*".repeat(499) + "a"), 0);
        due("a", x.lie(3, 1) & 1, 1);
        due("not a", x.lie(3, 2) & 1, 0);
        due("399 TOKENS of and, or", say(x, 0, 0, "a or ".repeat(199) + "b"), 0);
        due("the last of them, b", x.lie(4, 2) & 1, 1);
        due("neither", x.lie(4, 0) & 1, 0);
    }

    /** It is COMMON if each common's E is not 0 in it. */
    private static void commonWorlds() {
        due("no common: all", village("fact a;fact b;").count(11), 4);
        due("0 - 1 is not 0", village("fact a;fact b;common 0 - 1;").count(11), 4);
        due("0: none", village("fact a;fact b;common 0;").count(11), 0);
        due("one of four is 0: none", village("fact a;fact b;common 1;common 1;common 1;common 0;").count(11), 0);
        due("each of four", village("fact a;fact b;common a;common 1;common 2;common b;").count(11), 1);
        LiarsCock x = village("fact a;fact b;common a - b;");
        int[] want = {0, 2, 2, 0};
        for (int w = 0; w < 4; w++) {
            due("a - b in " + w, x.world(w), want[w]);
        }
        x = village("fact a;fact b;fact c;fact d;fact e;fact f;common a+b+c+d+e+f=6;");
        due("only the last WORLD", x.count(11), 1);
        due("only the last WORLD", x.world(63), 2);
        due("not the one before", x.world(62), 0);
        x = village("fact a;fact b;fact c;fact d;fact e;fact f;common not (a+b+c+d+e+f);");
        due("only the first WORLD", x.world(0), 2);
        due("not the next one", x.world(1), 0);
    }

    /** Its FAULT: all stays then. */
    private static void refusedParish() {
        String[] faulty = {"#", "fact", "fact z;fact z;", "fact z chance 11;", "common 0;cock 2 law 0 late 0;",
            "fact u;place v bearing 300;person w at v knows u;common not u;cock 1 law 1 late 9;cock 1",
            FULL + "fact"};
        for (String text : faulty) {
            refused("parish " + text, () -> offered(), parish(new LiarsCock(), text), x -> parish(x, text));
        }
    }

    private static LiarsCock offered() {
        LiarsCock x = talk();
        offer(x, 0, 12, "rain");
        x.look(0, 12, 90, 90);
        x.watch(0, 15);
        return x;
    }

    /** All that was told of the one ahead is gone but MARKS. */
    private static void newParish() {
        LiarsCock x = offered();
        String image = image(x);
        x.mark(1, false);
        due("the next", parish(x, SMALL), 0);
        int[] counts = {2, 1, 1, 0, 1, 0, 0, 0, 0, 0, 0, 4};
        for (int what = 0; what < counts.length; what++) {
            due("the next: count " + what, x.count(what), counts[what]);
        }
        due("nothing is said", x.say(0, 0), 0);
        due("rows start anew: look", x.look(0, 0, 0, 0), 0);
        due("rows start anew: watch", x.watch(0, 0), 0);
        due("back", x.mark(1, true), true);
        due("all is as marked", image(x).equals(image), true);
    }
}
