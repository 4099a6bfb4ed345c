import java.util.ArrayList;
import java.util.Arrays;
import java.util.Collections;
import java.util.List;
import java.util.NoSuchElementException;
import java.util.Random;

/** Runs of calls by chance (always the same ones), answered by LiarsCock and by PlainCock: they must agree. */
public final class RandomRunsTest {
    private static final int RUNS = 2500;
    private static final String[] NAMES = {"a", "b", "rain", "theft", "wet", "snow", "gate", "inn", "mill", "barn",
        "church", "well", "tom", "sue", "ann", "bob", "eve", "zacharia", "x", "y", "z", "q"};
    private static final String[] ODD_TOKENS = {"fact", "chance", "place", "bearing", "person", "at", "knows", "common",
        "cock", "law", "late", "not", "and", "or", "(", ")", "<", "=", "+", "-", "*", ";", "0", "1", "7", "360", "12345",
        "abcdefghi", "#", "A", "nobody", "rain", "tom", "gate", "0001", ",", "9999", "~"};

    private static final int[] FAR = {Integer.MIN_VALUE + 1, -1440, -360, -64, -1, 0, 1, 6, 31, 32, 63, 64, 180, 360, 512,
        1024, 1440, 4096, 65536, Integer.MAX_VALUE - 1};

    private final Random dice;
    private final LiarsCock cock = new LiarsCock();
    private final PlainCock plain = new PlainCock();
    private final List<String> calls = new ArrayList<>();
    private final int latest;
    private final int[] reached;
    private List<String> facts = new ArrayList<>();
    private boolean agrees = true;

    private RandomRunsTest(int seed, int[] reached) {
        dice = new Random(seed);
        latest = dice.nextInt(4) == 0 ? 1439 : 40 + dice.nextInt(60);
        this.reached = reached;
    }

    public static void main(String[] args) {
        int runs = args.length > 0 ? Integer.parseInt(args[0]) : RUNS;
        int first = args.length > 1 ? Integer.parseInt(args[1]) : 0;
        int[] reached = new int[64];
        for (int seed = first; seed < first + runs; seed++) {
            RandomRunsTest run = new RandomRunsTest(seed, reached);
            run.play();
            if (!run.agrees) {
                System.out.println("seed " + seed + ":");
                run.calls.forEach(System.out::println);
                System.exit(1);
            }
        }
        System.out.println(runs + " runs agree; answers other than NONE by call: " + Arrays.toString(reached));
    }

    private void play() {
        int size = 20 + dice.nextInt(200);
        boolean fresh = dice.nextInt(10) == 0;
        for (int i = 0; i < 3 && !fresh && plain.count(2) == 0; i++) {
            tellParish();
        }
        for (int i = 0; i < size && agrees; i++) {
            call();
        }
    }

    private boolean rarely() {
        return dice.nextInt(25) == 0;
    }

    /** A number that hardly any call takes. */
    private int far() {
        return FAR[dice.nextInt(FAR.length)] + dice.nextInt(3) - 1;
    }

    private int upTo(int most) {
        return rarely() ? dice.nextInt(12) : dice.nextInt(most + 1);
    }

    private int one(int count) {
        if (rarely()) {
            return far();
        }
        return count <= 0 || rarely() ? dice.nextInt(10) - 2 : dice.nextInt(count);
    }

    private int minute() {
        return rarely() ? far() : dice.nextInt(latest + 1);
    }

    private int bearing() {
        return rarely() ? far() : dice.nextInt(36) * 10;
    }

    private void answer(int kind, String call, long got, long due) {
        calls.add(call + " answered " + got + ", due is " + due);
        reached[kind] += due != PlainCock.NONE ? 1 : 0;
        agrees &= got == due;
    }

    // texts

    private void feed(String text) {
        byte[] bytes = Arrays.copyOf(text.getBytes(java.nio.charset.StandardCharsets.ISO_8859_1),
            (text.length() + 23) / 24 * 24);
        for (int i = 0; i < bytes.length; i += 24) {
            long[] x = new long[3];
            for (int j = 0; j < 24; j++) {
                x[j / 8] = x[j / 8] << 8 | bytes[i + j] & 255;
            }
            answer(0, "feed \"" + text + "\" at " + i, cock.feed(x[0], x[1], x[2]), plain.feed(x[0], x[1], x[2]));
        }
    }

    private void tellParish() {
        List<String> names = new ArrayList<>(Arrays.asList(NAMES));
        Collections.shuffle(names, dice);
        List<String> told = new ArrayList<>();
        String text = maybeSpoilt(parishText(names, told));
        feed(text);
        int due = plain.parish();
        answer(1, "parish()", cock.parish(), due);
        if (due == 0) {
            facts = told;
        }
    }

    private String parishText(List<String> names, List<String> told) {
        StringBuilder s = new StringBuilder();
        List<String> places = new ArrayList<>();
        int lines = dice.nextInt(8);
        for (int f = rarely() ? 7 : 1 + dice.nextInt(6); f > 0; f--) {
            told.add(names.remove(0));
            s.append("fact ").append(told.get(told.size() - 1));
            s.append(dice.nextBoolean() ? ";" : " chance " + upTo(10) + " ;");
            lines -= common(s, told, lines) ? 4 : 0;
        }
        for (int p = rarely() ? 7 : 1 + dice.nextInt(6); p > 0; p--) {
            places.add(names.remove(0));
            s.append("place ").append(places.get(places.size() - 1)).append(" bearing ");
            s.append(dice.nextInt(4) == 0 ? 0 : Math.floorMod(bearing(), 400)).append("; ");
        }
        for (int p = rarely() ? 7 : 1 + dice.nextInt(6); p > 0; p--) {
            s.append("person ").append(names.remove(0)).append(" at ");
            s.append(places.get(dice.nextInt(places.size()))).append(" knows");
            for (String fact : told) {
                s.append(dice.nextInt(3) == 0 ? " " + fact : "");
            }
            s.append(";\n");
        }
        for (int c = dice.nextInt(3); c > 0; c--) {
            common(s, told, 9);
        }
        for (int c = 0; c < 2; c++) {
            if (dice.nextInt(3) > 0) {
                s.append("cock ").append(c).append(" law ").append(dice.nextInt(2)).append(" late ");
                s.append(dice.nextBoolean() ? dice.nextInt(6) : upTo(60)).append(";");
            }
        }
        return s.toString();
    }

    private boolean common(StringBuilder s, List<String> told, int wish) {
        if (wish <= dice.nextInt(9)) {
            return false;
        }
        s.append("common ").append(e(told, 0)).append(dice.nextBoolean() ? " or " + e(told, 1) : "").append(";");
        return true;
    }

    private String maybeSpoilt(String text) {
        if (dice.nextInt(4) > 0) {
            return text;
        }
        int at = dice.nextInt(text.length() + 1);
        int space = text.indexOf(' ', at);
        int from = space < 0 ? at : space;
        int to = Math.min(text.length(), from + dice.nextInt(5));
        String odd = ODD_TOKENS[dice.nextInt(ODD_TOKENS.length)];
        return text.substring(0, from) + (dice.nextBoolean() ? " " + odd + " " : "") + text.substring(to);
    }

    private String e(List<String> names, int depth) {
        int size = depth > 1 ? 1 : 1 + dice.nextInt(3);
        StringBuilder s = new StringBuilder(part(names, depth));
        int tests = dice.nextInt(20);
        String[] joins = {"+", "*", "-", " and ", " or ", "<", "="};
        for (int i = 1; i < size; i++) {
            int join = dice.nextInt(3 + (i == 1 ? 4 : 2));
            s.append(tests > 0 && join == 2 ? " or " : joins[join]).append(part(names, depth));
        }
        return s.toString();
    }

    private String part(List<String> names, int depth) {
        int kind = dice.nextInt(12 + depth * 4);
        if (kind == 0 || names.isEmpty()) {
            return String.valueOf(dice.nextInt(dice.nextBoolean() ? 3 : 10000));
        }
        if (kind < 4) {
            return "not " + part(names, depth + 1);
        }
        if (kind < 6) {
            return "(" + e(names, depth + 1) + ")";
        }
        return names.get(dice.nextInt(names.size()));
    }

    private void feedE() {
        if (dice.nextInt(8) > 0) {
            String text = e(facts, 0);
            feed(dice.nextInt(12) == 0 ? maybeSpoilt(text) : text);
        }
    }

    // calls

    private void call() {
        int people = plain.count(2);
        int worlds = 1 << plain.count(0);
        int kind = dice.nextInt(50);
        int person = one(people);
        int fact = one(plain.count(0));
        int saying = one(plain.count(5));
        int c = rarely() ? one(0) : dice.nextInt(plain.count(4));
        int what = rarely() ? one(0) : dice.nextInt(2);
        int from = minute();
        int to = dice.nextInt(4) > 0 ? from + dice.nextInt(30) : minute();
        int set = rarely() ? one(70) : dice.nextInt(1 << people);
        switch (kind) {
            case 0 -> {
                if (rarely()) {
                    tellParish();
                }
            }
            case 1 -> {
                int w = one(worlds);
                answer(kind, "truth " + w, cock.truth(w) ? 1 : 0, plain.truth(w) ? 1 : 0);
            }
            case 2, 3, 38, 39, 40, 41, 42 -> {
                feedE();
                int m = dice.nextInt(10) == 0 ? minute() : nearLast();
                answer(2, "say " + person + " " + m, cock.say(person, m), plain.say(person, m));
            }
            case 4 -> {
                feedE();
                answer(kind, "offer " + person + " " + from, cock.offer(person, from), plain.offer(person, from));
            }
            case 5, 6 -> look(c);
            case 7 -> answer(kind, "watch " + c + " " + from, cock.watch(c, from), plain.watch(c, from));
            case 8 -> {
                int m = dice.nextInt(6) - 1;
                boolean back = dice.nextBoolean();
                answer(kind, "mark " + m + back, cock.mark(m, back) ? 1 : 0, plain.mark(m, back) ? 1 : 0);
                facts = new ArrayList<>(facts);
            }
            case 9, 10 -> {
                int w = dice.nextInt(16) - 2;
                answer(9, "count " + w, cock.count(w), plain.count(w));
            }
            default -> ask(kind, person, fact, saying, new int[] {c, what, from, to, set, one(worlds)});
        }
    }

    private int nearLast() {
        return Math.min(latest, plain.lastMinute() + dice.nextInt(9) - (rarely() ? 3 : 0));
    }

    /** Mostly a SECTOR round where the cock points in some WORLD, so that WORLDS are left. */
    private void look(int c) {
        int m = minute();
        int who = plain.points(c, m, dice.nextInt(1 << plain.count(0)));
        int b = who == PlainCock.NONE ? 0 : plain.person(who, 1);
        boolean aimed = dice.nextInt(4) > 0;
        int from = aimed ? (b + 360 - dice.nextInt(90)) % 360 : bearing();
        int to = aimed ? (b + dice.nextInt(90)) % 360 : bearing();
        if (!aimed && dice.nextInt(3) > 0) {
            return;
        }
        answer(5, "look " + c + " " + m + " " + from + " " + to, cock.look(c, m, from, to), plain.look(c, m, from, to));
    }

    private void ask(int kind, int person, int fact, int saying, int[] more) {
        int c = more[0];
        int what = more[1];
        int from = more[2];
        int to = more[3];
        int set = more[4];
        int world = more[5];
        String args = kind + ": person " + person + " fact " + fact + " saying " + saying + " cock, what, from, to, set, "
            + "world " + Arrays.toString(more);
        int who = dice.nextInt(4) == 0 ? PlainCock.NONE : person;
        boolean so = dice.nextBoolean();
        int width = rarely() ? far() : dice.nextInt(181);
        int number = rarely() ? one(20) : 1 + dice.nextInt(9);
        args += " who " + who + " so " + so + " width " + width + " number " + number;
        switch (kind) {
            case 11 -> answer(kind, args, cock.world(world), plain.world(world));
            case 12 -> answer(kind, args, cock.lie(saying, world), plain.lie(saying, world));
            case 13 -> answer(kind, args, cock.points(c, from, world), plain.points(c, from, world));
            case 14 -> answer(kind, args, cock.worlds(fact), plain.worlds(fact));
            case 15 -> answer(kind, args, cock.sureFact(fact), plain.sureFact(fact));
            case 16 -> answer(kind, args, cock.sure(saying), plain.sure(saying));
            case 17 -> answer(kind, args, cock.odds(fact, what), plain.odds(fact, what));
            case 18 -> answer(kind, args, cock.proof(saying, what), plain.proof(saying, what));
            case 19 -> answer(kind, args, cock.clash(what), plain.clash(what));
            case 20 -> answer(kind, args, cock.next(c, from, to, what), plain.next(c, from, to, what));
            case 21 -> answer(kind, args, cock.fog(c, from, to, what), plain.fog(c, from, to, what));
            case 22 -> {
                int m = nearLast();
                answer(kind, args + " m " + m, cock.learns(person, fact, so, m, c),
                    plain.learns(person, fact, so, m, c));
            }
            case 23 -> answer(kind, args, cock.judged(), plain.judged());
            case 24 -> answer(kind, args, cock.turned(c, from), plain.turned(c, from));
            case 25 -> answer(kind, args, cock.pointed(c, who, from, to), plain.pointed(c, who, from, to));
            case 26 -> answer(kind, args, cock.round(c, from), plain.round(c, from));
            case 27 -> answer(kind, args, cock.hidden(saying, set), plain.hidden(saying, set));
            case 28 -> answer(kind, args, cock.hide(saying, what), plain.hide(saying, what));
            case 29 -> answer(kind, args, secret(saying, c, number, 1 + width / 12, what, false),
                secret(saying, c, number, 1 + width / 12, what, true));
            case 30 -> answer(kind, args, cock.sector(from / 4, to / 4), plain.sector(from / 4, to / 4));
            case 31 -> answer(kind, args, cock.blind(width, what), plain.blind(width, what));
            case 32 -> answer(kind, args, cock.told(set), plain.told(set));
            case 33 -> answer(kind, args, cock.fewest(fact, what), plain.fewest(fact, what));
            case 34 -> answer(kind, args, cock.person(person, what), plain.person(person, what));
            case 35 -> answer(kind, args, cock.move(c, who), plain.move(c, who));
            case 36 -> answer(kind, args, cock.longest(c, from, to, what), plain.longest(c, from, to, what));
            case 37 -> answer(kind, args, cock.differ(from, to), plain.differ(from, to));
            default -> {
                int w = dice.nextInt(6) - 1;
                answer(43, args + " w " + w, cock.lookout(c, fact, w), plain.lookout(c, fact, w));
            }
        }
    }

    /** -2 stands for NoSuchElementException. */
    private long secret(int saying, int c, int ten, int n, int what, boolean plainly) {
        try {
            return plainly ? plain.secret(saying, c, ten, n, what) : cock.secret(saying, c, ten, n, what);
        } catch (NoSuchElementException e) {
            return -2;
        }
    }
}
