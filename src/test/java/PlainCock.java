import java.util.ArrayList;
import java.util.Arrays;
import java.util.Collections;
import java.util.HashMap;
import java.util.HashSet;
import java.util.List;
import java.util.Map;
import java.util.NoSuchElementException;
import java.util.Set;
import java.util.TreeSet;
import java.util.regex.Matcher;
import java.util.regex.Pattern;

/**
 * The document once more, word by word and as slow as need be: each WORLD, each MINUTE and each set is gone through
 * one by one. RandomRunsTest compares its answers with those of LiarsCock.
 */
final class PlainCock {
    static final int NONE = -1;
    private static final Set<String> RESERVED = Set.of("fact", "chance", "place", "bearing", "person", "at", "knows",
            "common", "cock", "law", "late", "not", "and", "or");
    private static final Pattern TOKEN = Pattern.compile("[ \n]*([a-z]+|[0-9]+|[^ \n])");

    /** An E in some WORLD. */
    private interface E {
        int in(int world);
    }

    private static final class Fault extends RuntimeException {
        private static final long serialVersionUID = 1;
        final int code;

        Fault(int kind, int place) {
            super(null, null, false, false);
            code = kind + 16 * place;
        }
    }

    private static final class Village {
        final List<String> facts = new ArrayList<>();
        final List<Integer> chances = new ArrayList<>();
        final List<String> places = new ArrayList<>();
        final List<Integer> bearings = new ArrayList<>();
        final List<String> people = new ArrayList<>();
        final List<Integer> homes = new ArrayList<>();
        final List<Set<Integer>> knows = new ArrayList<>();
        final List<E> commons = new ArrayList<>();
        final Map<Integer, int[]> cocks = new HashMap<>();

        boolean isCommon(int world) {
            for (E e : commons) {
                if (e.in(world) == 0) {
                    return false;
                }
            }
            return true;
        }

        boolean agree(Set<Integer> facts, int one, int other) {
            for (int f : facts) {
                if ((one >> f) % 2 != (other >> f) % 2) {
                    return false;
                }
            }
            return true;
        }

        int bearingOf(int person) {
            return person == NONE ? 0 : bearings.get(homes.get(person));
        }
    }

    private static final class Said {
        final int who;
        final int minute;
        final E e;
        /** What isLie() found, by law and WORLD: a memory, or whole days would take too long. */
        final Boolean[][] lies = new Boolean[2][64];

        Said(int who, int minute, E e) {
            this.who = who;
            this.minute = minute;
            this.e = e;
        }
    }

    private static final class Told {
        Village v = new Village();
        List<Said> said = new ArrayList<>();
        List<Said> offers = new ArrayList<>();
        List<int[]> looks = new ArrayList<>();
        List<int[]> watches = new ArrayList<>();
        int truth;

        Told() {
            v.cocks.put(0, new int[] {0, 0});
        }

        Told copy() {
            Told t = new Told();
            t.v = v;
            t.said = new ArrayList<>(said);
            t.offers = new ArrayList<>(offers);
            t.looks = new ArrayList<>(looks);
            t.watches = new ArrayList<>(watches);
            t.truth = truth;
            return t;
        }
    }

    private final StringBuilder tape = new StringBuilder();
    private Told t = new Told();
    private final Told[] marks = new Told[4];

    // reading

    private List<String> tokens;
    private List<Integer> placesOf;
    private int at;

    private void scan(String text) {
        tokens = new ArrayList<>();
        placesOf = new ArrayList<>();
        at = 0;
        Matcher m = TOKEN.matcher(text);
        while (m.find()) {
            tokens.add(m.group(1));
            placesOf.add(m.start(1));
        }
        tokens.add("");
        placesOf.add(text.length());
    }

    private String tok() {
        return tokens.get(at);
    }

    private Fault fault(int kind) {
        return new Fault(kind, placesOf.get(at));
    }

    private boolean isWord() {
        return tok().matches("[a-z]{1,8}");
    }

    private boolean isNumber() {
        return tok().matches("[0-9]{1,4}");
    }

    private boolean isName() {
        return isWord() && !RESERVED.contains(tok());
    }

    private void must(String what) {
        if (!tok().equals(what)) {
            throw fault(1);
        }
        at++;
    }

    private int numberAsTold(int most) {
        if (!isNumber()) {
            throw fault(1);
        }
        int n = Integer.parseInt(tok());
        if (n > most) {
            throw fault(4);
        }
        at++;
        return n;
    }

    private String newName(Village v) {
        if (!isName()) {
            throw fault(1);
        }
        if (v.facts.contains(tok()) || v.places.contains(tok()) || v.people.contains(tok())) {
            throw fault(3);
        }
        at++;
        return tokens.get(at - 1);
    }

    private int oldName(List<String> names, Set<Integer> but) {
        if (!isName()) {
            throw fault(1);
        }
        int n = names.indexOf(tok());
        if (n < 0) {
            throw fault(2);
        }
        if (but.contains(n)) {
            throw fault(3);
        }
        at++;
        return n;
    }

    private Village readVillage() {
        Village v = new Village();
        while (!tok().isEmpty()) {
            String line = tok();
            boolean full = line.equals("fact") && v.facts.size() == 6 || line.equals("place") && v.places.size() == 6
                    || line.equals("person") && v.people.size() == 6 || line.equals("common") && v.commons.size() == 4;
            if (!List.of("fact", "place", "person", "common", "cock").contains(line)) {
                throw fault(1);
            }
            if (full) {
                throw fault(5);
            }
            at++;
            switch (line) {
                case "fact" -> {
                    v.facts.add(newName(v));
                    boolean chance = tok().equals("chance");
                    at += chance ? 1 : 0;
                    v.chances.add(chance ? numberAsTold(10) : 5);
                }
                case "place" -> {
                    v.places.add(newName(v));
                    must("bearing");
                    v.bearings.add(numberAsTold(359));
                }
                case "person" -> {
                    v.people.add(newName(v));
                    must("at");
                    v.homes.add(oldName(v.places, Set.of()));
                    must("knows");
                    Set<Integer> known = new HashSet<>();
                    while (!tok().equals(";")) {
                        known.add(oldName(v.facts, known));
                    }
                    v.knows.add(known);
                }
                case "common" -> v.commons.add(readE(v, 0));
                default -> readCock(v);
            }
            must(";");
        }
        v.cocks.putIfAbsent(0, new int[] {0, 0});
        return v;
    }

    private void readCock(Village v) {
        if (isNumber() && v.cocks.containsKey(Integer.parseInt(tok()))) {
            throw fault(3);
        }
        int cock = numberAsTold(1);
        must("law");
        int law = numberAsTold(1);
        must("late");
        v.cocks.put(cock, new int[] {law, numberAsTold(60)});
    }

    private E readE(Village v, int within) {
        E left = readTest(v, within);
        while (tok().equals("and") || tok().equals("or")) {
            boolean and = tok().equals("and");
            at++;
            E a = left;
            E b = readTest(v, within);
            left = and ? w -> a.in(w) != 0 && b.in(w) != 0 ? 1 : 0 : w -> a.in(w) != 0 || b.in(w) != 0 ? 1 : 0;
        }
        return left;
    }

    private E readTest(Village v, int within) {
        E a = readSum(v, within);
        String sign = tok();
        if (!sign.equals("<") && !sign.equals("=")) {
            return a;
        }
        at++;
        E b = readSum(v, within);
        return sign.equals("<") ? w -> a.in(w) < b.in(w) ? 1 : 0 : w -> a.in(w) == b.in(w) ? 1 : 0;
    }

    private E readSum(Village v, int within) {
        E left = readProduct(v, within);
        while (tok().equals("+") || tok().equals("-")) {
            int factor = tok().equals("+") ? 1 : -1;
            at++;
            E a = left;
            E b = readProduct(v, within);
            left = w -> a.in(w) + factor * b.in(w);
        }
        return left;
    }

    private E readProduct(Village v, int within) {
        E left = readPart(v, within);
        while (tok().equals("*")) {
            at++;
            E a = left;
            E b = readPart(v, within);
            left = w -> a.in(w) * b.in(w);
        }
        return left;
    }

    private E readPart(Village v, int within) {
        String s = tok();
        if (!isNumber() && !isName() && !s.equals("not") && !s.equals("(")) {
            throw fault(1);
        }
        if (isName() && !v.facts.contains(s)) {
            throw fault(2);
        }
        if (within == 5) {
            throw fault(5);
        }
        int number = isNumber() ? Integer.parseInt(s) : 0;
        boolean isNumber = isNumber();
        at++;
        if (isNumber) {
            return w -> number;
        }
        if (s.equals("not")) {
            E e = readPart(v, within + 1);
            return w -> e.in(w) == 0 ? 1 : 0;
        }
        if (s.equals("(")) {
            E e = readE(v, within + 1);
            must(")");
            return e;
        }
        int fact = v.facts.indexOf(s);
        return w -> w >> fact & 1;
    }

    // what is so

    private boolean isSo(Said s, int world) {
        return s.e != null && s.e.in(world) != 0;
    }

    private boolean isLie(Said s, int world, int law) {
        if (s.lies[law][world] == null) {
            s.lies[law][world] = findLie(s, world, law);
        }
        return s.lies[law][world];
    }

    private boolean findLie(Said s, int world, int law) {
        if (s.e == null) {
            return false;
        }
        if (law == 0) {
            return !isSo(s, world);
        }
        for (int w = 0; w < worldCount(); w++) {
            if (t.v.isCommon(w) && t.v.agree(t.v.knows.get(s.who), w, world) && isSo(s, w)) {
                return false;
            }
        }
        return true;
    }

    private int worldCount() {
        return 1 << t.v.facts.size();
    }

    private int pointsAt(List<Said> said, int cock, int minute, int world) {
        int who = NONE;
        for (Said s : said) {
            if (s.minute + late(cock) <= minute && isLie(s, world, law(cock))) {
                who = s.who;
            }
        }
        return who;
    }

    private int bearingAt(List<Said> said, int cock, int minute, int world) {
        return t.v.bearingOf(pointsAt(said, cock, minute, world));
    }

    private int law(int cock) {
        return t.v.cocks.get(cock)[0];
    }

    private int late(int cock) {
        return t.v.cocks.get(cock)[1];
    }

    private static boolean inSector(int bearing, int from, int to) {
        for (int b = from;; b = (b + 1) % 360) {
            if (b == bearing) {
                return true;
            }
            if (b == to) {
                return false;
            }
        }
    }

    private boolean fits(int[] look, int world) {
        return inSector(bearingAt(t.said, look[0], look[1], world), look[2], look[3]);
    }

    private List<Integer> canBe(int looks) {
        List<Integer> worlds = new ArrayList<>();
        for (int w = 0; w < worldCount(); w++) {
            boolean can = t.v.isCommon(w);
            for (int i = 0; i < t.looks.size() && can; i++) {
                can = (looks >> i & 1) == 0 || fits(t.looks.get(i), w);
            }
            if (can) {
                worlds.add(w);
            }
        }
        return worlds;
    }

    private List<Integer> canBe() {
        return canBe(-1);
    }

    private static boolean minute(int m) {
        return m >= 0 && m <= 1439;
    }

    private static boolean span(int from, int to) {
        return minute(from) && minute(to) && from <= to;
    }

    private static boolean degree(int b) {
        return b >= 0 && b < 360;
    }

    private boolean isPerson(int p) {
        return p >= 0 && p < t.v.people.size();
    }

    private boolean isFact(int f) {
        return f >= 0 && f < t.v.facts.size();
    }

    private boolean isWorld(int w) {
        return w >= 0 && w < worldCount();
    }

    private boolean isCock(int c) {
        return t.v.cocks.containsKey(c);
    }

    private boolean isSaying(int s) {
        return s >= 0 && s < t.said.size();
    }

    private static boolean binary(int what) {
        return what == 0 || what == 1;
    }

    /** For who makes runs. */
    int lastMinute() {
        return t.said.isEmpty() ? 0 : t.said.get(t.said.size() - 1).minute;
    }

    // the calls

    int feed(long a, long b, long c) {
        for (long x : new long[] {a, b, c}) {
            for (int i = 7; i >= 0; i--) {
                int sign = (int) (x >> 8 * i) & 255;
                if ((sign == 10 || sign >= 32 && sign <= 126) && tape.length() < 1000) {
                    tape.append((char) sign);
                }
            }
        }
        return tape.length();
    }

    int parish() {
        scan(tape.toString());
        tape.setLength(0);
        try {
            Village v = readVillage();
            t = new Told();
            t.v = v;
            return 0;
        } catch (Fault f) {
            return f.code;
        }
    }

    private int hear(List<Said> list, int person, int minute) {
        scan(tape.toString());
        tape.setLength(0);
        try {
            E e = null;
            if (!tok().isEmpty()) {
                e = readE(t.v, 0);
                if (!tok().isEmpty()) {
                    throw fault(1);
                }
            }
            list.add(new Said(person, minute, e));
            return 0;
        } catch (Fault f) {
            return f.code;
        }
    }

    int say(int person, int minute) {
        if (!isPerson(person) || !minute(minute) || t.said.size() == 24
                || !t.said.isEmpty() && minute < t.said.get(t.said.size() - 1).minute) {
            tape.setLength(0);
            return -1;
        }
        return hear(t.said, person, minute);
    }

    int offer(int person, int minute) {
        if (!isPerson(person) || !minute(minute) || t.offers.size() == 6) {
            tape.setLength(0);
            return -1;
        }
        return hear(t.offers, person, minute);
    }

    boolean truth(int world) {
        if (isWorld(world)) {
            t.truth = world;
        }
        return isWorld(world);
    }

    int look(int cock, int minute, int from, int to) {
        if (!isCock(cock) || !minute(minute) || !degree(from) || !degree(to) || t.looks.size() == 12) {
            return NONE;
        }
        t.looks.add(new int[] {cock, minute, from, to});
        return t.looks.size() - 1;
    }

    int watch(int cock, int minute) {
        if (!isCock(cock) || !minute(minute) || t.watches.size() == 4) {
            return NONE;
        }
        t.watches.add(new int[] {cock, minute});
        return t.watches.size() - 1;
    }

    int world(int world) {
        if (!isWorld(world)) {
            return NONE;
        }
        return canBe().contains(world) ? 2 : t.v.isCommon(world) ? 1 : 0;
    }

    int lie(int saying, int world) {
        if (!isSaying(saying) || !isWorld(world)) {
            return NONE;
        }
        Said s = t.said.get(saying);
        return (isSo(s, world) ? 1 : 0) + (isLie(s, world, 0) ? 2 : 0) + (isLie(s, world, 1) ? 4 : 0);
    }

    int points(int cock, int minute, int world) {
        return isCock(cock) && minute(minute) && isWorld(world) ? pointsAt(t.said, cock, minute, world) : NONE;
    }

    int worlds(int fact) {
        if (fact == NONE) {
            return canBe().size();
        }
        return isFact(fact) ? (int) canBe().stream().filter(w -> (w >> fact & 1) == 1).count() : NONE;
    }

    private static int surely(List<Integer> worlds, E e) {
        if (worlds.isEmpty()) {
            return 3;
        }
        long so = worlds.stream().filter(w -> e.in(w) != 0).count();
        return so == worlds.size() ? 1 : so == 0 ? 0 : 2;
    }

    int sureFact(int fact) {
        return isFact(fact) ? surely(canBe(), w -> w >> fact & 1) : NONE;
    }

    int sure(int saying) {
        return isSaying(saying) ? surely(canBe(), w -> isSo(t.said.get(saying), w) ? 1 : 0) : NONE;
    }

    long odds(int fact, int what) {
        if (!isFact(fact) || !binary(what)) {
            return NONE;
        }
        long above = 0;
        long below = 0;
        for (int w : canBe()) {
            long weight = 1;
            for (int f = 0; f < t.v.facts.size(); f++) {
                weight *= (w >> f & 1) == 1 ? t.v.chances.get(f) : 10 - t.v.chances.get(f);
            }
            below += weight;
            above += (w >> fact & 1) == 1 ? weight : 0;
        }
        if (below == 0) {
            return NONE;
        }
        long g = java.math.BigInteger.valueOf(above).gcd(java.math.BigInteger.valueOf(below)).longValue();
        return what == 0 ? above / g : below / g;
    }

    private interface Good {
        boolean is(int set);
    }

    /** Of all sets of n the least of the fewest that is good. */
    private static int best(int n, int what, Good good) {
        for (int size = 0; size <= n; size++) {
            for (int set = 0; set < 1 << n; set++) {
                if (Integer.bitCount(set) == size && good.is(set)) {
                    return what == 0 ? size : set;
                }
            }
        }
        return NONE;
    }

    int proof(int saying, int what) {
        int sure = sure(saying);
        if (sure == NONE || sure > 1 || !binary(what)) {
            return NONE;
        }
        return best(t.looks.size(), what,
            set -> surely(canBe(set), w -> isSo(t.said.get(saying), w) ? 1 : 0) == sure);
    }

    int clash(int what) {
        return !binary(what) || !canBe().isEmpty() ? NONE : best(t.looks.size(), what, set -> canBe(set).isEmpty());
    }

    private Map<Integer, List<Integer>> byBearing(List<Said> said, int cock, int minute, List<Integer> worlds) {
        Map<Integer, List<Integer>> groups = new HashMap<>();
        for (int w : worlds) {
            groups.computeIfAbsent(bearingAt(said, cock, minute, w), k -> new ArrayList<>()).add(w);
        }
        return groups;
    }

    int next(int cock, int from, int to, int what) {
        List<Integer> worlds = canBe();
        if (!isCock(cock) || !span(from, to) || !binary(what) || worlds.isEmpty()) {
            return NONE;
        }
        int best = 1000;
        int at = NONE;
        for (int m = from; m <= to; m++) {
            int worst = 0;
            for (List<Integer> g : byBearing(t.said, cock, m, worlds).values()) {
                worst = Math.max(worst, g.size());
            }
            if (worst < best) {
                best = worst;
                at = m;
            }
        }
        return what == 0 ? at : best;
    }

    int fog(int cock, int from, int to, int what) {
        List<Integer> worlds = canBe();
        if (!isCock(cock) || !span(from, to) || !binary(what) || worlds.isEmpty()) {
            return NONE;
        }
        int best = 0;
        int at = NONE;
        for (int m = from; m <= to; m++) {
            int apart = byBearing(t.said, cock, m, worlds).size();
            if (apart > best) {
                best = apart;
                at = m;
            }
        }
        return what == 0 ? at : best;
    }

    int learns(int person, int fact, boolean so, int minute, int cock) {
        if (!isPerson(person) || !isFact(fact) || !minute(minute) || !isCock(cock)
                || !t.said.isEmpty() && minute < t.said.get(t.said.size() - 1).minute
                || minute + late(cock) > 1439) {
            return NONE;
        }
        List<Integer> worlds = new ArrayList<>();
        for (int w : canBe()) {
            if (t.v.agree(t.v.knows.get(person), w, t.truth)) {
                worlds.add(w);
            }
        }
        if (worlds.isEmpty()) {
            return NONE;
        }
        List<Said> all = new ArrayList<>(t.said);
        all.add(new Said(person, minute, w -> (w >> fact & 1) == (so ? 1 : 0) ? 1 : 0));
        for (List<Integer> g : byBearing(all, cock, minute + late(cock), worlds).values()) {
            if (surely(g, w -> w >> fact & 1) == 2) {
                return 0;
            }
        }
        return 1;
    }

    int judged() {
        for (int i = 0; i < t.looks.size(); i++) {
            if (!fits(t.looks.get(i), t.truth)) {
                return i;
            }
        }
        return NONE;
    }

    private int truly(int cock, int minute) {
        return minute < 0 ? NONE : pointsAt(t.said, cock, minute, t.truth);
    }

    int turned(int cock, int minute) {
        if (!isCock(cock) || !minute(minute)) {
            return NONE;
        }
        int n = 0;
        for (int m = 0; m <= minute; m++) {
            n += truly(cock, m) != truly(cock, m - 1) ? 1 : 0;
        }
        return n;
    }

    int pointed(int cock, int person, int from, int to) {
        if (!isCock(cock) || person != NONE && !isPerson(person) || !span(from, to)) {
            return NONE;
        }
        int n = 0;
        for (int m = from; m <= to; m++) {
            n += truly(cock, m) == person ? 1 : 0;
        }
        return n;
    }

    private static int way(int a, int b) {
        int d = Math.floorMod(a - b, 360);
        return d > 180 ? 360 - d : d;
    }

    int round(int cock, int minute) {
        if (!isCock(cock) || !minute(minute)) {
            return NONE;
        }
        int sum = 0;
        int bearing = 0;
        for (int m = 0; m <= minute; m++) {
            int now = t.v.bearingOf(truly(cock, m));
            sum += way(bearing, now);
            bearing = now;
        }
        return sum;
    }

    private boolean isHidden(int saying, int set) {
        List<int[]> order = new ArrayList<>();
        for (int i = 0; i < t.said.size(); i++) {
            order.add(new int[] {t.said.get(i).minute, 0, i});
        }
        for (int i = 0; i < t.offers.size(); i++) {
            if ((set >> i & 1) == 1) {
                order.add(new int[] {t.offers.get(i).minute, 1, i});
            }
        }
        order.sort((a, b) -> Arrays.compare(a, b));
        List<Said> all = new ArrayList<>();
        for (int[] o : order) {
            all.add(o[1] == 0 ? t.said.get(o[2]) : t.offers.get(o[2]));
        }
        List<Integer> fit = new ArrayList<>();
        for (int w = 0; w < worldCount(); w++) {
            boolean fits = t.v.isCommon(w);
            for (int[] watch : t.watches) {
                fits &= bearingAt(all, watch[0], watch[1], w) == bearingAt(all, watch[0], watch[1], t.truth);
            }
            if (fits) {
                fit.add(w);
            }
        }
        return surely(fit, w -> isSo(t.said.get(saying), w) ? 1 : 0) != 0;
    }

    private boolean isHideable(int saying) {
        return isSaying(saying) && isLie(t.said.get(saying), t.truth, law(0));
    }

    int hidden(int saying, int offers) {
        if (!isHideable(saying) || offers < 0 || offers >= 1 << t.offers.size()) {
            return NONE;
        }
        return isHidden(saying, offers) ? 1 : 0;
    }

    int hide(int saying, int what) {
        return isHideable(saying) && binary(what) ? best(t.offers.size(), what, set -> isHidden(saying, set)) : NONE;
    }

    long secret(int saying, int cock, int ten, int n, int what) {
        if (!isSaying(saying) || !isCock(cock) || ten < 1 || ten > 9 || n < 1 || n > 15 || !binary(what)) {
            throw new NoSuchElementException();
        }
        Said s = t.said.get(saying);
        int from = s.minute + late(cock);
        if (!isLie(s, t.truth, law(cock)) || from + n - 1 > 1439) {
            throw new NoSuchElementException();
        }
        long above = 1;
        long below = 1;
        for (int m = from; m < from + n; m++) {
            if (truly(cock, m) == s.who) {
                above *= 10 - ten;
                below *= 10;
            }
        }
        long g = java.math.BigInteger.valueOf(above).gcd(java.math.BigInteger.valueOf(below)).longValue();
        return what == 0 ? above / g : below / g;
    }

    int sector(int from, int to) {
        if (!degree(from) || !degree(to)) {
            return NONE;
        }
        int set = 0;
        for (int p = 0; p < t.v.people.size(); p++) {
            set |= inSector(t.v.bearingOf(p), from, to) ? 1 << p : 0;
        }
        return set;
    }

    int blind(int width, int what) {
        if (width < 0 || width > 180 || !binary(what)) {
            return NONE;
        }
        int n = t.v.people.size();
        int[] crowd = new int[n];
        for (int p = 0; p < n; p++) {
            crowd[p] = p;
        }
        int pairs = 0;
        for (int a = 0; a < n; a++) {
            for (int b = 0; b < a; b++) {
                if (way(t.v.bearingOf(a), t.v.bearingOf(b)) <= width) {
                    pairs++;
                    int old = crowd[a];
                    int now = crowd[b];
                    for (int p = 0; p < n; p++) {
                        crowd[p] = crowd[p] == old ? now : crowd[p];
                    }
                }
            }
        }
        int most = 0;
        for (int p = 0; p < n; p++) {
            int c = crowd[p];
            most = Math.max(most, (int) Arrays.stream(crowd).filter(x -> x == c).count());
        }
        return what == 0 ? pairs : most;
    }

    int told(int people) {
        if (people < 0 || people >= 1 << t.v.people.size()) {
            return NONE;
        }
        Set<Integer> known = new HashSet<>();
        for (int p = 0; p < t.v.people.size(); p++) {
            if ((people >> p & 1) == 1) {
                known.addAll(t.v.knows.get(p));
            }
        }
        List<Integer> worlds = new ArrayList<>();
        for (int w = 0; w < worldCount(); w++) {
            if (t.v.isCommon(w) && t.v.agree(known, w, t.truth)) {
                worlds.add(w);
            }
        }
        int told = 0;
        for (int f = 0; f < t.v.facts.size(); f++) {
            int fact = f;
            told |= surely(worlds, w -> w >> fact & 1) < 2 ? 1 << f : 0;
        }
        return told;
    }

    int fewest(int fact, int what) {
        if (!isFact(fact) || !binary(what)) {
            return NONE;
        }
        return best(t.v.people.size(), what, set -> (told(set) >> fact & 1) == 1);
    }

    int person(int person, int what) {
        if (!isPerson(person) || what < 0 || what > 2) {
            return NONE;
        }
        int known = 0;
        for (int f : t.v.knows.get(person)) {
            known += 1 << f;
        }
        return what == 0 ? t.v.homes.get(person) : what == 1 ? t.v.bearingOf(person) : known;
    }

    int lookout(int cock, int fact, int what) {
        List<Integer> worlds = canBe();
        if (!isCock(cock) || !isFact(fact) || what < 0 || what > 3 || worlds.isEmpty()) {
            return NONE;
        }
        TreeSet<Integer> asked = new TreeSet<>();
        for (Said s : t.said) {
            int m = s.minute + late(cock);
            for (int w : worlds) {
                int before = m == 0 ? NONE : pointsAt(t.said, cock, m - 1, w);
                if (m <= 1439 && pointsAt(t.said, cock, m, w) != before) {
                    asked.add(m);
                }
            }
        }
        List<Integer> minutes = new ArrayList<>(asked);
        List<Integer> best = null;
        for (int size = 0; size <= 3 && best == null; size++) {
            best = tryLooks(cock, fact, worlds, minutes, size);
        }
        if (best == null) {
            return NONE;
        }
        return what == 0 ? best.size() : what <= best.size() ? best.get(what - 1) : NONE;
    }

    private List<Integer> tryLooks(int cock, int fact, List<Integer> worlds, List<Integer> minutes, int size) {
        Map<Integer, Map<Integer, Integer>> seen = new HashMap<>();
        for (int m : minutes) {
            seen.put(m, new HashMap<>());
            for (int w : worlds) {
                seen.get(m).put(w, bearingAt(t.said, cock, m, w));
            }
        }
        List<List<Integer>> tries = new ArrayList<>(List.of(Collections.<Integer>emptyList()));
        for (int i = 0; i < size; i++) {
            List<List<Integer>> longer = new ArrayList<>();
            for (List<Integer> some : tries) {
                for (int m : minutes) {
                    if (some.isEmpty() || m > some.get(some.size() - 1)) {
                        List<Integer> more = new ArrayList<>(some);
                        more.add(m);
                        longer.add(more);
                    }
                }
            }
            tries = longer;
        }
        for (List<Integer> some : tries) {
            Map<List<Integer>, Integer> tells = new HashMap<>();
            boolean good = true;
            for (int w : worlds) {
                List<Integer> shown = new ArrayList<>();
                for (int m : some) {
                    shown.add(seen.get(m).get(w));
                }
                Integer old = tells.put(shown, w >> fact & 1);
                good &= old == null || old == (w >> fact & 1);
            }
            if (good) {
                return some;
            }
        }
        return null;
    }

    int move(int cock, int but) {
        if (!isCock(cock) || but != NONE && !isPerson(but)) {
            return NONE;
        }
        for (int p = 0; p < t.v.people.size(); p++) {
            for (int f = 0; f < t.v.facts.size() && p != but; f++) {
                int fact = f;
                if (isLie(new Said(p, 0, w -> w >> fact & 1), t.truth, law(cock))) {
                    return p * 12 + f * 2;
                }
                if (isLie(new Said(p, 0, w -> 1 - (w >> fact & 1)), t.truth, law(cock))) {
                    return p * 12 + f * 2 + 1;
                }
            }
        }
        return NONE;
    }

    int longest(int cock, int from, int to, int what) {
        if (!isCock(cock) || !span(from, to) || !binary(what)) {
            return NONE;
        }
        int most = 0;
        int whom = NONE;
        int run = 0;
        for (int m = from; m <= to; m++) {
            int who = truly(cock, m);
            run = m > from && who == truly(cock, m - 1) ? run + 1 : 1;
            if (who != NONE && run > most) {
                most = run;
                whom = who;
            }
        }
        return most == 0 ? NONE : what == 0 ? most : whom;
    }

    int differ(int from, int to) {
        if (!isCock(1) || !span(from, to)) {
            return NONE;
        }
        int n = 0;
        for (int m = from; m <= to; m++) {
            n += truly(0, m) != truly(1, m) ? 1 : 0;
        }
        return n;
    }

    boolean mark(int mark, boolean back) {
        if (mark < 0 || mark > 3 || back && marks[mark] == null) {
            return false;
        }
        if (back) {
            t = marks[mark].copy();
        } else {
            marks[mark] = t.copy();
        }
        return true;
    }

    int count(int what) {
        int common = 0;
        for (int w = 0; w < worldCount(); w++) {
            common += t.v.isCommon(w) ? 1 : 0;
        }
        int[] counts = {t.v.facts.size(), t.v.places.size(), t.v.people.size(), t.v.commons.size(), t.v.cocks.size(),
            t.said.size(), t.looks.size(), t.offers.size(), t.watches.size(), t.truth, tape.length(), common};
        return what >= 0 && what < counts.length ? counts[what] : NONE;
    }
}
